set_option maxHeartbeats 20000000 in
theorem bX4_init_0 (t : Nat) (h : zH) (Q : Option Value → zH → Prop) (H : ∀ h1 : zH, h1 = (zn h (zO 8 [.null, .null, .null, .null, .null, .int 0, .int 0, .int 0, .int 0, .int 0, .long 0])) → (zC mX8_init [.ref (h.1)] h1 (fun r0 h3 => r0 = none ∧ (oK h3 t 4 ∧ (∀ h5 : zH, h5 = (pF h3 t 0 (zr (some h.1))) → (∀ h7 : zH, h7 = (zn h5 (zI 0 1600 (fun _ => 0))) → (∀ h10 : zH, h10 = (pF h7 t 1 (zr (some h5.1))) → (∀ h13 : zH, h13 = (zn h10 (zI 0 64 (fun _ => 0))) → (∀ h17 : zH, h17 = (pF h13 t 2 (zr (some h10.1))) → (∀ h21 : zH, h21 = (pF h17 t 13 (.int (-1 : Int32))) → (Q none h21))))))))))) : zX mX4_init 0 [.ref t] [] h Q := by
  refine zX_seg (pc' := 5) (L' := [.ref t]) (st' := [.ref t]) (h2 := h) rfl rfl (fun C Cr hc kk => x_aload_n C (v := .ref t) rfl rfl dX4_init_0 (x_objInit C lX4_3 oi_i oi_c ⟨by decide, by decide⟩ (Nat.le_of_ble_eq_true rfl) dX4_init_1 (x_aload_n C (v := .ref t) rfl rfl dX4_init_4 (kk)))) ?_
  refine zX_new (pc' := 8) (L' := [.ref t]) (st' := [.ref (h.1), .ref t]) (e := (zO 8 [.null, .null, .null, .null, .null, .int 0, .int 0, .int 0, .int 0, .int 0, .long 0])) (fun C z1 z2 kk => x_new C [.null, .null, .null, .null, .null, .int 0, .int 0, .int 0, .int 0, .int 0, .long 0] (hcl := (rfl : vwCl[8]? = some (RX8, TX8, 11))) tX8 wX8 ⟨lX4_9, qX8⟩ rfl z1 z2 dX4_init_5 kk) ?_
  obtain ⟨h1, eh1⟩ : ∃ y : zH, y = (zn h (zO 8 [.null, .null, .null, .null, .null, .int 0, .int 0, .int 0, .int 0, .int 0, .long 0])) := ⟨_, rfl⟩
  replace H := H h1 eh1
  rw [← eh1]
  have g2 : oK h1 h.1 8 := by rw [eh1]; exact oK_new rfl
  refine zX_seg (pc' := 9) (L' := [.ref t]) (st' := [.ref (h.1), .ref (h.1), .ref t]) (h2 := h1) rfl rfl (fun C Cr hc kk => x_dup C rfl dX4_init_8 (kk)) ?_
  refine zX_call (as := [.ref (h.1)]) (st := [.ref (h.1), .ref t]) (fun C hM hc kk => x_callIN C [] hM kX8_init iX8_init ⟨rfl, rfl⟩ lX4_11 ⟨by decide, by decide⟩ rfl hc (Nat.le_of_ble_eq_true rfl) rfl dX4_init_9 kk) (zC.mono H ?_)
  rintro r0 h3 ⟨rfl, H⟩
  show zX mX4_init 12 [.ref t] [.ref (h.1), .ref t] h3 Q
  obtain ⟨g4, H⟩ := H
  refine zX_seg (pc' := 15) (L' := [.ref t]) (st' := []) (h2 := (pF h3 t 0 (zr (some h.1)))) rfl rfl (fun C Cr hc kk => f_putFR C Cr rfl (x := (some h.1)) lX4_12 tX4 nX4_0 g4 rfl (Or.inl ⟨_, rfl⟩) dX4_init_12 (kk)) ?_
  obtain ⟨h5, eh5⟩ : ∃ y : zH, y = (pF h3 t 0 (zr (some h.1))) := ⟨_, rfl⟩
  replace H := H h5 eh5
  rw [← eh5]
  have g6 : oK h5 t 4 := by rw [eh5]; exact oK_pF' g4 rfl (zmr _) g4
  refine zX_seg (pc' := 19) (L' := [.ref t]) (st' := [.int (1600 : Int32), .ref t]) (h2 := h5) rfl rfl (fun C Cr hc kk => x_aload_n C (v := .ref t) rfl rfl dX4_init_15 (x_sipush C (1600 : Int32) (by decide) dX4_init_16 (kk))) ?_
  refine zX_new (pc' := 21) (L' := [.ref t]) (st' := [.ref (h5.1), .ref t]) (e := (zI 0 1600 (fun _ => 0))) (fun C z1 z2 kk => x_newa C (at0 := .int) ac_int (Or.inl ⟨rfl, rfl⟩) (by decide) (by decide) (by decide) z1 z2 dX4_init_19 kk) ?_
  obtain ⟨h7, eh7⟩ : ∃ y : zH, y = (zn h5 (zI 0 1600 (fun _ => 0))) := ⟨_, rfl⟩
  replace H := H h7 eh7
  rw [← eh7]
  have g8 : oK h7 t 4 := by rw [eh7]; exact oK_zn g6
  have g9 : iK h7 h5.1 0 := by rw [eh7]; exact iK_new
  refine zX_seg (pc' := 24) (L' := [.ref t]) (st' := []) (h2 := (pF h7 t 1 (zr (some h5.1)))) rfl rfl (fun C Cr hc kk => f_putFR C Cr rfl (x := (some h5.1)) lX4_18 tX4 nX4_1 g8 rfl (Or.inr ⟨_, rfl⟩) dX4_init_21 (kk)) ?_
  obtain ⟨h10, eh10⟩ : ∃ y : zH, y = (pF h7 t 1 (zr (some h5.1))) := ⟨_, rfl⟩
  replace H := H h10 eh10
  rw [← eh10]
  have g11 : oK h10 t 4 := by rw [eh10]; exact oK_pF' g8 rfl (zmr _) g8
  have g12 : iK h10 h5.1 0 := by rw [eh10]; exact iK_pF g9
  refine zX_seg (pc' := 27) (L' := [.ref t]) (st' := [.int (64 : Int32), .ref t]) (h2 := h10) rfl rfl (fun C Cr hc kk => x_aload_n C (v := .ref t) rfl rfl dX4_init_24 (x_bipush C (64 : Int32) (by decide) dX4_init_25 (kk))) ?_
  refine zX_new (pc' := 29) (L' := [.ref t]) (st' := [.ref (h10.1), .ref t]) (e := (zI 0 64 (fun _ => 0))) (fun C z1 z2 kk => x_newa C (at0 := .int) ac_int (Or.inl ⟨rfl, rfl⟩) (by decide) (by decide) (by decide) z1 z2 dX4_init_27 kk) ?_
  obtain ⟨h13, eh13⟩ : ∃ y : zH, y = (zn h10 (zI 0 64 (fun _ => 0))) := ⟨_, rfl⟩
  replace H := H h13 eh13
  rw [← eh13]
  have g14 : oK h13 t 4 := by rw [eh13]; exact oK_zn g11
  have g15 : iK h13 h5.1 0 := by rw [eh13]; exact iK_zn g12
  have g16 : iK h13 h10.1 0 := by rw [eh13]; exact iK_new
  refine zX_seg (pc' := 32) (L' := [.ref t]) (st' := []) (h2 := (pF h13 t 2 (zr (some h10.1)))) rfl rfl (fun C Cr hc kk => f_putFR C Cr rfl (x := (some h10.1)) lX4_22 tX4 nX4_2 g14 rfl (Or.inr ⟨_, rfl⟩) dX4_init_29 (kk)) ?_
  obtain ⟨h17, eh17⟩ : ∃ y : zH, y = (pF h13 t 2 (zr (some h10.1))) := ⟨_, rfl⟩
  replace H := H h17 eh17
  rw [← eh17]
  have g18 : oK h17 t 4 := by rw [eh17]; exact oK_pF' g14 rfl (zmr _) g14
  have g19 : iK h17 h5.1 0 := by rw [eh17]; exact iK_pF g15
  have g20 : iK h17 h10.1 0 := by rw [eh17]; exact iK_pF g16
  refine zX_seg (pc' := 37) (L' := [.ref t]) (st' := []) (h2 := (pF h17 t 13 (.int (-1 : Int32)))) rfl rfl (fun C Cr hc kk => x_aload_n C (v := .ref t) rfl rfl dX4_init_32 (x_iconst C (-1 : Int32) (by decide) dX4_init_33 (f_putI C lX4_25 tX4 nX4_13 g18 rfl rfl dX4_init_34 (kk)))) ?_
  obtain ⟨h21, eh21⟩ : ∃ y : zH, y = (pF h17 t 13 (.int (-1 : Int32))) := ⟨_, rfl⟩
  replace H := H h21 eh21
  rw [← eh21]
  have g22 : oK h21 t 4 := by rw [eh21]; exact oK_pF' g18 rfl rfl g18
  have g23 : iK h21 h5.1 0 := by rw [eh21]; exact iK_pF g19
  have g24 : iK h21 h10.1 0 := by rw [eh21]; exact iK_pF g20
  exact zX_ret none (fun C Cr hc => x_ret C Cr rfl hc dX4_init_37 ⟨rfl, rfl⟩) H
theorem nX4_init (t : Nat) (h : zH) (Q : Option Value → zH → Prop) (H : zX mX4_init 0 [.ref t] [] h Q) : zC mX4_init [.ref t] h Q := zC_of (by decide +kernel) (by simp) (Nat.le_of_ble_eq_true rfl) H
set_option maxHeartbeats 20000000 in
theorem bX4_readRoll_0 (t : Nat) (p0 : Nat) (h : zH) (Q : Option Value → zH → Prop) (H : oK h p0 10 ∧ (zC mX10_clear [.ref p0] h (fun r0 h2 => r0 = none ∧ (oK h2 t 4 ∧ (zC mX4_begin [.ref t, .ref p0, .int (0 : Int32)] h2 (fun r0 h4 => r0 = none ∧ (zX mX4_readRoll 12 [.ref t, .float 0, .int (0 : Int32)] [] h4 Q))))))) : zX mX4_readRoll 0 [.ref t, .ref p0, .float 0] [] h Q := by
  refine zX_seg (pc' := 1) (L' := [.ref t, .ref p0, .float 0]) (st' := [.ref p0]) (h2 := h) rfl rfl (fun C Cr hc kk => x_aload_n C (v := .ref p0) rfl rfl dX4_readRoll_0 (kk)) ?_
  obtain ⟨g1, H⟩ := H
  refine zX_call (as := [.ref p0]) (st := []) (fun C hM hc kk => f_callVN C [] hM kX10_clear vX10_clear lX4_29 ⟨by decide, by decide⟩ (rfl : vwCl[10]? = some (RX10, TX10, 10)) g1 rfl hc (Nat.le_of_ble_eq_true rfl) rfl dX4_readRoll_1 kk) (zC.mono H ?_)
  rintro r0 h2 ⟨rfl, H⟩
  show zX mX4_readRoll 4 [.ref t, .ref p0, .float 0] [] h2 Q
  refine zX_seg (pc' := 7) (L' := [.ref t, .ref p0, .float 0]) (st' := [.int (0 : Int32), .ref p0, .ref t]) (h2 := h2) rfl rfl (fun C Cr hc kk => x_aload_n C (v := .ref t) rfl rfl dX4_readRoll_4 (x_aload_n C (v := .ref p0) rfl rfl dX4_readRoll_5 (x_iconst C (0 : Int32) (by decide) dX4_readRoll_6 (kk)))) ?_
  obtain ⟨g3, H⟩ := H
  refine zX_call (as := [.ref t, .ref p0, .int (0 : Int32)]) (st := []) (fun C hM hc kk => f_callV C [.ref p0, .int (0 : Int32)] hM kX4_begin vX4_begin lX4_34 ⟨by decide, by decide⟩ (rfl : vwCl[4]? = some (RX4, TX4, 14)) g3 rfl hc (Nat.le_of_ble_eq_true rfl) rfl dX4_readRoll_7 kk) (zC.mono H ?_)
  rintro r0 h4 ⟨rfl, H⟩
  show zX mX4_readRoll 10 [.ref t, .ref p0, .float 0] [] h4 Q
  refine zX_seg (pc' := 12) (L' := [.ref t, .ref p0, .int (0 : Int32)]) (st' := []) (h2 := h4) rfl rfl (fun C Cr hc kk => x_iconst C (0 : Int32) (by decide) dX4_readRoll_10 (x_istore_n C (by decide) dX4_readRoll_11 (kk))) ?_
  exact zX_wk (wkK (wkD (wkK wkN))) H
set_option maxHeartbeats 20000000 in
theorem bX4_readRoll_12 (l0 : Nat) (l2 : Int32) (h : zH) (Q : Option Value → zH → Prop) (H : ((1600 : Int32) < l2 → (zX mX4_readRoll 159 [.ref l0, .float 0, .float 0] [] h Q)) ∧ (¬ ((1600 : Int32) < l2) → (oK h l0 4 ∧ (((gI h l0 12) = 0 → (∃ a4 : Nat, gR h l0 0 = some a4 ∧ (oK h a4 8 ∧ (((gI h a4 8) = (30 : Int32) → (zX mX4_readRoll 159 [.ref l0, .float 0, .float 0] [] h Q)) ∧ (¬ ((gI h a4 8) = (30 : Int32)) → (((gI h a4 8) = 0 → (zX mX4_readRoll 84 [.ref l0, .float 0, .int l2] [] h Q)) ∧ (((gI h a4 8) = 1 → (zX mX4_readRoll 92 [.ref l0, .float 0, .int l2] [] h Q)) ∧ (((gI h a4 8) = 2 → (zX mX4_readRoll 100 [.ref l0, .float 0, .int l2] [] h Q)) ∧ (((gI h a4 8) = 5 → (zX mX4_readRoll 108 [.ref l0, .float 0, .int l2] [] h Q)) ∧ (¬ (gI h a4 8) = 0 → ¬ (gI h a4 8) = 1 → ¬ (gI h a4 8) = 2 → ¬ (gI h a4 8) = 5 → (zX mX4_readRoll 140 [.ref l0, .float 0, .int l2] [] h Q))))))))))) ∧ (¬ ((gI h l0 12) = 0) → (zX mX4_readRoll 159 [.ref l0, .float 0, .float 0] [] h Q)))))) : zX mX4_readRoll 12 [.ref l0, .float 0, .int l2] [] h Q := by
  refine zX_seg (pc' := 16) (L' := [.ref l0, .float 0, .int l2]) (st' := [.int (1600 : Int32), .int l2]) (h2 := h) rfl rfl (fun C Cr hc kk => x_iload_n C rfl dX4_readRoll_12 (x_sipush C (1600 : Int32) (by decide) dX4_readRoll_13 (kk))) ?_
  refine zX_br (p1 := 159) (p2 := 19) (st' := []) ((1600 : Int32) < l2) (fun C kt kf => x_icmp_gt C 159 dX4_readRoll_16 (by decide) kt kf) (fun q1 => ?_) (fun q1 => ?_)
  · replace H := H.1 q1
    exact zX_wk (wkK (wkD (wkD wkN))) H
  · replace H := H.2 q1
    obtain ⟨g2, H⟩ := H
    refine zX_seg (pc' := 23) (L' := [.ref l0, .float 0, .int l2]) (st' := [.int (gI h l0 12)]) (h2 := h) rfl rfl (fun C Cr hc kk => x_aload_n C (v := .ref l0) rfl rfl dX4_readRoll_19 (f_getI C lX4_38 g2 rfl dX4_readRoll_20 (kk))) ?_
    refine zX_br (p1 := 26) (p2 := 159) (st' := []) ((gI h l0 12) = 0) (fun C kt kf => x_if_ne C 159 dX4_readRoll_23 (by decide) kf kt) (fun q3 => ?_) (fun q3 => ?_)
    · replace H := H.1 q3
      obtain ⟨a4, ea4, H⟩ := H
      obtain ⟨g5, H⟩ := H
      refine zX_seg (pc' := 35) (L' := [.ref l0, .float 0, .int l2]) (st' := [.int (30 : Int32), .int (gI h a4 8)]) (h2 := h) rfl rfl (fun C Cr hc kk => x_aload_n C (v := .ref l0) rfl rfl dX4_readRoll_26 (f_getR1 C lX4_12 g2 rfl ea4 dX4_readRoll_27 (f_getIN C lX4_41 g5 rfl dX4_readRoll_30 (x_bipush C (30 : Int32) (by decide) dX4_readRoll_33 (kk))))) ?_
      refine zX_br (p1 := 159) (p2 := 38) (st' := []) ((gI h a4 8) = (30 : Int32)) (fun C kt kf => x_icmp_eq C 159 dX4_readRoll_35 (by decide) kt kf) (fun q6 => ?_) (fun q6 => ?_)
      · replace H := H.1 q6
        exact zX_wk (wkK (wkD (wkD wkN))) H
      · replace H := H.2 q6
        refine zX_seg (pc' := (ztt 45 95 0 5 [39, 47, 55, 95, 95, 63] (gI h a4 8))) (L' := [.ref l0, .float 0, .int l2]) (st' := []) (h2 := h) rfl rfl (fun C Cr hc kk => x_aload_n C (v := .ref l0) rfl rfl dX4_readRoll_38 (f_getR1 C lX4_12 g2 rfl ea4 dX4_readRoll_39 (f_getIN C lX4_41 g5 rfl dX4_readRoll_42 (f_table C ⟨⟨by decide, by decide⟩, by decide⟩ dX4_readRoll_45 (kk))))) ?_
        by_cases z7 : (gI h a4 8) = 0
        · replace H := H.1 z7
          rw [show (ztt 45 95 0 5 [39, 47, 55, 95, 95, 63] (gI h a4 8)) = 84 from by rw [z7]; decide]
          exact zX_wk (wkK (wkD (wkK wkN))) H
        · replace H := H.2
          by_cases z8 : (gI h a4 8) = 1
          · replace H := H.1 z8
            rw [show (ztt 45 95 0 5 [39, 47, 55, 95, 95, 63] (gI h a4 8)) = 92 from by rw [z8]; decide]
            exact zX_wk (wkK (wkD (wkK wkN))) H
          · replace H := H.2
            by_cases z9 : (gI h a4 8) = 2
            · replace H := H.1 z9
              rw [show (ztt 45 95 0 5 [39, 47, 55, 95, 95, 63] (gI h a4 8)) = 100 from by rw [z9]; decide]
              exact zX_wk (wkK (wkD (wkK wkN))) H
            · replace H := H.2
              by_cases z10 : (gI h a4 8) = 5
              · replace H := H.1 z10
                rw [show (ztt 45 95 0 5 [39, 47, 55, 95, 95, 63] (gI h a4 8)) = 108 from by rw [z10]; decide]
                exact zX_wk (wkK (wkD (wkK wkN))) H
              · replace H := H.2
                rw [show (ztt 45 95 0 5 [39, 47, 55, 95, 95, 63] (gI h a4 8)) = 140 from (ztt_d [0, 1, 2, 5] (by decide) (by decide) (List.forall_mem_cons.mpr ⟨z7, (List.forall_mem_cons.mpr ⟨z8, (List.forall_mem_cons.mpr ⟨z9, (List.forall_mem_cons.mpr ⟨z10, (fun _ h => absurd h List.not_mem_nil)⟩)⟩)⟩)⟩)).trans (by decide)]
                replace H := H z7 z8 z9 z10
                exact zX_wk (wkK (wkD (wkK wkN))) H
    · replace H := H.2 q3
      exact zX_wk (wkK (wkD (wkD wkN))) H
set_option maxHeartbeats 20000000 in
theorem bX4_readRoll_84 (l0 : Nat) (l2 : Int32) (h : zH) (Q : Option Value → zH → Prop) (H : oK h l0 4 ∧ (zC mX4_tellName [.ref l0] h (fun r0 h2 => ∃ x3 : Int32, r0 = some (.int x3) ∧ (zX mX4_readRoll 146 [.ref l0, .float 0, .int l2] [] h2 Q)))) : zX mX4_readRoll 84 [.ref l0, .float 0, .int l2] [] h Q := by
  refine zX_seg (pc' := 85) (L' := [.ref l0, .float 0, .int l2]) (st' := [.ref l0]) (h2 := h) rfl rfl (fun C Cr hc kk => x_aload_n C (v := .ref l0) rfl rfl dX4_readRoll_84 (kk)) ?_
  obtain ⟨g1, H⟩ := H
  refine zX_call (as := [.ref l0]) (st := []) (fun C hM hc kk => f_callV C [] hM kX4_tellName vX4_tellName lX4_44 ⟨by decide, by decide⟩ (rfl : vwCl[4]? = some (RX4, TX4, 14)) g1 rfl hc (Nat.le_of_ble_eq_true rfl) rfl dX4_readRoll_85 kk) (zC.mono H ?_)
  rintro r0 h2 ⟨x3, rfl, H⟩
  show zX mX4_readRoll 88 [.ref l0, .float 0, .int l2] [.int x3] h2 Q
  refine zX_seg (pc' := 146) (L' := [.ref l0, .float 0, .int l2]) (st' := []) (h2 := h2) rfl rfl (fun C Cr hc kk => x_pop C rfl dX4_readRoll_88 (x_goto C 146 dX4_readRoll_89 (by decide) (kk))) ?_
  exact zX_wk (wkK (wkD (wkK wkN))) H
set_option maxHeartbeats 20000000 in
theorem bX4_readRoll_92 (l0 : Nat) (l2 : Int32) (h : zH) (Q : Option Value → zH → Prop) (H : oK h l0 4 ∧ (zC mX4_tellStreet [.ref l0] h (fun r0 h2 => ∃ x3 : Int32, r0 = some (.int x3) ∧ (zX mX4_readRoll 146 [.ref l0, .float 0, .int l2] [] h2 Q)))) : zX mX4_readRoll 92 [.ref l0, .float 0, .int l2] [] h Q := by
  refine zX_seg (pc' := 93) (L' := [.ref l0, .float 0, .int l2]) (st' := [.ref l0]) (h2 := h) rfl rfl (fun C Cr hc kk => x_aload_n C (v := .ref l0) rfl rfl dX4_readRoll_92 (kk)) ?_
  obtain ⟨g1, H⟩ := H
  refine zX_call (as := [.ref l0]) (st := []) (fun C hM hc kk => f_callV C [] hM kX4_tellStreet vX4_tellStreet lX4_48 ⟨by decide, by decide⟩ (rfl : vwCl[4]? = some (RX4, TX4, 14)) g1 rfl hc (Nat.le_of_ble_eq_true rfl) rfl dX4_readRoll_93 kk) (zC.mono H ?_)
  rintro r0 h2 ⟨x3, rfl, H⟩
  show zX mX4_readRoll 96 [.ref l0, .float 0, .int l2] [.int x3] h2 Q
  refine zX_seg (pc' := 146) (L' := [.ref l0, .float 0, .int l2]) (st' := []) (h2 := h2) rfl rfl (fun C Cr hc kk => x_pop C rfl dX4_readRoll_96 (x_goto C 146 dX4_readRoll_97 (by decide) (kk))) ?_
  exact zX_wk (wkK (wkD (wkK wkN))) H
set_option maxHeartbeats 20000000 in
theorem bX4_readRoll_100 (l0 : Nat) (l2 : Int32) (h : zH) (Q : Option Value → zH → Prop) (H : oK h l0 4 ∧ (zC mX4_tellVoter [.ref l0] h (fun r0 h2 => ∃ x3 : Int32, r0 = some (.int x3) ∧ (zX mX4_readRoll 146 [.ref l0, .float 0, .int l2] [] h2 Q)))) : zX mX4_readRoll 100 [.ref l0, .float 0, .int l2] [] h Q := by
  refine zX_seg (pc' := 101) (L' := [.ref l0, .float 0, .int l2]) (st' := [.ref l0]) (h2 := h) rfl rfl (fun C Cr hc kk => x_aload_n C (v := .ref l0) rfl rfl dX4_readRoll_100 (kk)) ?_
  obtain ⟨g1, H⟩ := H
  refine zX_call (as := [.ref l0]) (st := []) (fun C hM hc kk => f_callV C [] hM kX4_tellVoter vX4_tellVoter lX4_51 ⟨by decide, by decide⟩ (rfl : vwCl[4]? = some (RX4, TX4, 14)) g1 rfl hc (Nat.le_of_ble_eq_true rfl) rfl dX4_readRoll_101 kk) (zC.mono H ?_)
  rintro r0 h2 ⟨x3, rfl, H⟩
  show zX mX4_readRoll 104 [.ref l0, .float 0, .int l2] [.int x3] h2 Q
  refine zX_seg (pc' := 146) (L' := [.ref l0, .float 0, .int l2]) (st' := []) (h2 := h2) rfl rfl (fun C Cr hc kk => x_pop C rfl dX4_readRoll_104 (x_goto C 146 dX4_readRoll_105 (by decide) (kk))) ?_
  exact zX_wk (wkK (wkD (wkK wkN))) H
set_option maxHeartbeats 20000000 in
theorem bX4_readRoll_108 (l0 : Nat) (l2 : Int32) (h : zH) (Q : Option Value → zH → Prop) (H : oK h l0 4 ∧ (zC mX4_tellWhoseBallot [.ref l0] h (fun r0 h2 => ∃ x3 : Int32, r0 = some (.int x3) ∧ ((x3 = 0 → (zX mX4_readRoll 146 [.ref l0, .float 0, .int l2] [] h2 Q)) ∧ (¬ (x3 = 0) → (oK h2 l0 4 ∧ (zC mX4_readWording [.ref l0] h2 (fun r0 h6 => ∃ x7 : Int32, r0 = some (.int x7) ∧ ((x7 = 0 → (zX mX4_readRoll 146 [.ref l0, .float 0, .int l2] [] h6 Q)) ∧ (¬ (x7 = 0) → (oK h6 l0 4 ∧ (∃ a10 : Nat, gR h6 l0 3 = some a10 ∧ (zC mX4_ballot [.ref l0] h6 (fun r0 h11 => ∃ x12 : Option Nat, r0 = some (zr x12) ∧ (∃ a13 : Nat, x12 = some a13 ∧ (oK h11 a10 10 ∧ (zC mX10_tellBallot [.ref a10, .int (gI h6 l0 7), .ref a13] h11 (fun r0 h15 => r0 = none ∧ (zX mX4_readRoll 146 [.ref l0, .float 0, .int l2] [] h15 Q))))))))))))))))))) : zX mX4_readRoll 108 [.ref l0, .float 0, .int l2] [] h Q := by
  refine zX_seg (pc' := 109) (L' := [.ref l0, .float 0, .int l2]) (st' := [.ref l0]) (h2 := h) rfl rfl (fun C Cr hc kk => x_aload_n C (v := .ref l0) rfl rfl dX4_readRoll_108 (kk)) ?_
  obtain ⟨g1, H⟩ := H
  refine zX_call (as := [.ref l0]) (st := []) (fun C hM hc kk => f_callV C [] hM kX4_tellWhoseBallot vX4_tellWhoseBallot lX4_54 ⟨by decide, by decide⟩ (rfl : vwCl[4]? = some (RX4, TX4, 14)) g1 rfl hc (Nat.le_of_ble_eq_true rfl) rfl dX4_readRoll_109 kk) (zC.mono H ?_)
  rintro r0 h2 ⟨x3, rfl, H⟩
  show zX mX4_readRoll 112 [.ref l0, .float 0, .int l2] [.int x3] h2 Q
  refine zX_br (p1 := 146) (p2 := 115) (st' := []) (x3 = 0) (fun C kt kf => x_if_eq C 146 dX4_readRoll_112 (by decide) kt kf) (fun q4 => ?_) (fun q4 => ?_)
  · replace H := H.1 q4
    exact zX_wk (wkK (wkD (wkK wkN))) H
  · replace H := H.2 q4
    refine zX_seg (pc' := 116) (L' := [.ref l0, .float 0, .int l2]) (st' := [.ref l0]) (h2 := h2) rfl rfl (fun C Cr hc kk => x_aload_n C (v := .ref l0) rfl rfl dX4_readRoll_115 (kk)) ?_
    obtain ⟨g5, H⟩ := H
    refine zX_call (as := [.ref l0]) (st := []) (fun C hM hc kk => f_callV C [] hM kX4_readWording vX4_readWording lX4_57 ⟨by decide, by decide⟩ (rfl : vwCl[4]? = some (RX4, TX4, 14)) g5 rfl hc (Nat.le_of_ble_eq_true rfl) rfl dX4_readRoll_116 kk) (zC.mono H ?_)
    rintro r0 h6 ⟨x7, rfl, H⟩
    show zX mX4_readRoll 119 [.ref l0, .float 0, .int l2] [.int x7] h6 Q
    refine zX_br (p1 := 146) (p2 := 122) (st' := []) (x7 = 0) (fun C kt kf => x_if_eq C 146 dX4_readRoll_119 (by decide) kt kf) (fun q8 => ?_) (fun q8 => ?_)
    · replace H := H.1 q8
      exact zX_wk (wkK (wkD (wkK wkN))) H
    · replace H := H.2 q8
      obtain ⟨g9, H⟩ := H
      obtain ⟨a10, ea10, H⟩ := H
      refine zX_seg (pc' := 131) (L' := [.ref l0, .float 0, .int l2]) (st' := [.ref l0, .int (gI h6 l0 7), .ref a10]) (h2 := h6) rfl rfl (fun C Cr hc kk => x_aload_n C (v := .ref l0) rfl rfl dX4_readRoll_122 (f_getR1 C lX4_60 g9 rfl ea10 dX4_readRoll_123 (x_aload_n C (v := .ref l0) rfl rfl dX4_readRoll_126 (f_getI C lX4_64 g9 rfl dX4_readRoll_127 (x_aload_n C (v := .ref l0) rfl rfl dX4_readRoll_130 (kk)))))) ?_
      refine zX_call (as := [.ref l0]) (st := [.int (gI h6 l0 7), .ref a10]) (fun C hM hc kk => f_callV C [] hM kX4_ballot vX4_ballot lX4_67 ⟨by decide, by decide⟩ (rfl : vwCl[4]? = some (RX4, TX4, 14)) g9 rfl hc (Nat.le_of_ble_eq_true rfl) rfl dX4_readRoll_131 kk) (zC.mono H ?_)
      rintro r0 h11 ⟨x12, rfl, H⟩
      show zX mX4_readRoll 134 [.ref l0, .float 0, .int l2] [zr x12, .int (gI h6 l0 7), .ref a10] h11 Q
      obtain ⟨a13, rfl, H⟩ := H
      obtain ⟨g14, H⟩ := H
      refine zX_call (as := [.ref a10, .int (gI h6 l0 7), .ref a13]) (st := []) (fun C hM hc kk => f_callVN C [.int (gI h6 l0 7), .ref a13] hM kX10_tellBallot vX10_tellBallot lX4_71 ⟨by decide, by decide⟩ (rfl : vwCl[10]? = some (RX10, TX10, 10)) g14 rfl hc (Nat.le_of_ble_eq_true rfl) rfl dX4_readRoll_134 kk) (zC.mono H ?_)
      rintro r0 h15 ⟨rfl, H⟩
      show zX mX4_readRoll 137 [.ref l0, .float 0, .int l2] [] h15 Q
      refine zX_seg (pc' := 146) (L' := [.ref l0, .float 0, .int l2]) (st' := []) (h2 := h15) rfl rfl (fun C Cr hc kk => x_goto C 146 dX4_readRoll_137 (by decide) (kk)) ?_
      exact zX_wk (wkK (wkD (wkK wkN))) H
set_option maxHeartbeats 20000000 in
theorem bX4_readRoll_140 (l0 : Nat) (l2 : Int32) (h : zH) (Q : Option Value → zH → Prop) (H : oK h l0 4 ∧ (zC mX4_fail [.ref l0, .int (2 : Int32)] h (fun r0 h2 => ∃ x3 : Int32, r0 = some (.int x3) ∧ (zX mX4_readRoll 146 [.ref l0, .float 0, .int l2] [] h2 Q)))) : zX mX4_readRoll 140 [.ref l0, .float 0, .int l2] [] h Q := by
  refine zX_seg (pc' := 142) (L' := [.ref l0, .float 0, .int l2]) (st' := [.int (2 : Int32), .ref l0]) (h2 := h) rfl rfl (fun C Cr hc kk => x_aload_n C (v := .ref l0) rfl rfl dX4_readRoll_140 (x_iconst C (2 : Int32) (by decide) dX4_readRoll_141 (kk))) ?_
  obtain ⟨g1, H⟩ := H
  refine zX_call (as := [.ref l0, .int (2 : Int32)]) (st := []) (fun C hM hc kk => f_callV C [.int (2 : Int32)] hM kX4_fail vX4_fail lX4_75 ⟨by decide, by decide⟩ (rfl : vwCl[4]? = some (RX4, TX4, 14)) g1 rfl hc (Nat.le_of_ble_eq_true rfl) rfl dX4_readRoll_142 kk) (zC.mono H ?_)
  rintro r0 h2 ⟨x3, rfl, H⟩
  show zX mX4_readRoll 145 [.ref l0, .float 0, .int l2] [.int x3] h2 Q
  refine zX_seg (pc' := 146) (L' := [.ref l0, .float 0, .int l2]) (st' := []) (h2 := h2) rfl rfl (fun C Cr hc kk => x_pop C rfl dX4_readRoll_145 (kk)) ?_
  exact zX_wk (wkK (wkD (wkK wkN))) H
set_option maxHeartbeats 20000000 in
theorem bX4_readRoll_146 (l0 : Nat) (l2 : Int32) (h : zH) (Q : Option Value → zH → Prop) (H : oK h l0 4 ∧ (zC mX4_take [.ref l0, .int (22 : Int32)] h (fun r0 h2 => ∃ x3 : Int32, r0 = some (.int x3) ∧ (zX mX4_readRoll 12 [.ref l0, .float 0, .int (l2 + 1)] [] h2 Q)))) : zX mX4_readRoll 146 [.ref l0, .float 0, .int l2] [] h Q := by
  refine zX_seg (pc' := 149) (L' := [.ref l0, .float 0, .int l2]) (st' := [.int (22 : Int32), .ref l0]) (h2 := h) rfl rfl (fun C Cr hc kk => x_aload_n C (v := .ref l0) rfl rfl dX4_readRoll_146 (x_bipush C (22 : Int32) (by decide) dX4_readRoll_147 (kk))) ?_
  obtain ⟨g1, H⟩ := H
  refine zX_call (as := [.ref l0, .int (22 : Int32)]) (st := []) (fun C hM hc kk => f_callV C [.int (22 : Int32)] hM kX4_take vX4_take lX4_79 ⟨by decide, by decide⟩ (rfl : vwCl[4]? = some (RX4, TX4, 14)) g1 rfl hc (Nat.le_of_ble_eq_true rfl) rfl dX4_readRoll_149 kk) (zC.mono H ?_)
  rintro r0 h2 ⟨x3, rfl, H⟩
  show zX mX4_readRoll 152 [.ref l0, .float 0, .int l2] [.int x3] h2 Q
  refine zX_seg (pc' := 12) (L' := [.ref l0, .float 0, .int (l2 + 1)]) (st' := []) (h2 := h2) rfl rfl (fun C Cr hc kk => x_pop C rfl dX4_readRoll_152 (x_iinc C (l2 + 1) rfl (congrArg (HAdd.hAdd _) (by decide)) (by decide) dX4_readRoll_153 (x_goto C 12 dX4_readRoll_156 (by decide) (kk)))) ?_
  exact zX_wk (wkK (wkD (wkK wkN))) H
set_option maxHeartbeats 20000000 in
theorem bX4_readRoll_159 (l0 : Nat) (h : zH) (Q : Option Value → zH → Prop) (H : oK h l0 4 ∧ (((gI h l0 12) = 0 → (Q (some (.int (1 : Int32))) h)) ∧ (¬ ((gI h l0 12) = 0) → (Q (some (.int (0 : Int32))) h)))) : zX mX4_readRoll 159 [.ref l0, .float 0, .float 0] [] h Q := by
  obtain ⟨g1, H⟩ := H
  refine zX_seg (pc' := 163) (L' := [.ref l0, .float 0, .float 0]) (st' := [.int (gI h l0 12)]) (h2 := h) rfl rfl (fun C Cr hc kk => x_aload_n C (v := .ref l0) rfl rfl dX4_readRoll_159 (f_getI C lX4_38 g1 rfl dX4_readRoll_160 (kk))) ?_
  refine zX_br (p1 := 166) (p2 := 170) (st' := []) ((gI h l0 12) = 0) (fun C kt kf => x_if_ne C 170 dX4_readRoll_163 (by decide) kf kt) (fun q2 => ?_) (fun q2 => ?_)
  · replace H := H.1 q2
    refine zX_seg (pc' := 171) (L' := [.ref l0, .float 0, .float 0]) (st' := [.int (1 : Int32)]) (h2 := h) rfl rfl (fun C Cr hc kk => x_iconst C (1 : Int32) (by decide) dX4_readRoll_166 (x_goto C 171 dX4_readRoll_167 (by decide) (kk))) ?_
    exact zX_ret (some (.int (1 : Int32))) (fun C Cr hc => x_iret C Cr rfl rfl hc dX4_readRoll_171 ⟨rfl, rfl⟩) H
  · replace H := H.2 q2
    refine zX_seg (pc' := 171) (L' := [.ref l0, .float 0, .float 0]) (st' := [.int (0 : Int32)]) (h2 := h) rfl rfl (fun C Cr hc kk => x_iconst C (0 : Int32) (by decide) dX4_readRoll_170 (kk)) ?_
    exact zX_ret (some (.int (0 : Int32))) (fun C Cr hc => x_iret C Cr rfl rfl hc dX4_readRoll_171 ⟨rfl, rfl⟩) H
theorem nX4_readRoll (t : Nat) (p0 : Nat) (h : zH) (Q : Option Value → zH → Prop) (H : zX mX4_readRoll 0 [.ref t, .ref p0, .float 0] [] h Q) : zC mX4_readRoll [.ref t, .ref p0] h Q := zC_of (by decide +kernel) (by simp) (Nat.le_of_ble_eq_true rfl) H
set_option maxHeartbeats 20000000 in
theorem bX4_readOne_0 (t : Nat) (p0 : Nat) (p1 : Int32) (p2 : Int32) (h : zH) (Q : Option Value → zH → Prop) (H : oK h t 4 ∧ (zC mX4_begin [.ref t, .ref p0, .int p2] h (fun r0 h2 => r0 = none ∧ (oK h2 t 4 ∧ (zC mX4_beginBallot [.ref t, .int p1] h2 (fun r0 h4 => r0 = none ∧ (oK h4 t 4 ∧ (zC mX4_readWording [.ref t] h4 (fun r0 h6 => ∃ x7 : Int32, r0 = some (.int x7) ∧ ((x7 = 0 → (Q (some (.int (0 : Int32))) h6)) ∧ (¬ (x7 = 0) → (oK h6 t 4 ∧ (∃ a10 : Nat, gR h6 t 0 = some a10 ∧ (oK h6 a10 8 ∧ (((gI h6 a10 8) = (30 : Int32) → (Q (some (.int (1 : Int32))) h6)) ∧ (¬ ((gI h6 a10 8) = (30 : Int32)) → (zC mX4_fail [.ref t, .int (2 : Int32)] h6 (fun r0 h13 => ∃ x14 : Int32, r0 = some (.int x14) ∧ ((x14 = 0 → (Q (some (.int (0 : Int32))) h13)) ∧ (¬ (x14 = 0) → (Q (some (.int (1 : Int32))) h13))))))))))))))))))))) : zX mX4_readOne 0 [.ref t, .ref p0, .int p1, .int p2] [] h Q := by
  refine zX_seg (pc' := 3) (L' := [.ref t, .ref p0, .int p1, .int p2]) (st' := [.int p2, .ref p0, .ref t]) (h2 := h) rfl rfl (fun C Cr hc kk => x_aload_n C (v := .ref t) rfl rfl dX4_readOne_0 (x_aload_n C (v := .ref p0) rfl rfl dX4_readOne_1 (x_iload_n C rfl dX4_readOne_2 (kk)))) ?_
  obtain ⟨g1, H⟩ := H
  refine zX_call (as := [.ref t, .ref p0, .int p2]) (st := []) (fun C hM hc kk => f_callV C [.ref p0, .int p2] hM kX4_begin vX4_begin lX4_34 ⟨by decide, by decide⟩ (rfl : vwCl[4]? = some (RX4, TX4, 14)) g1 rfl hc (Nat.le_of_ble_eq_true rfl) rfl dX4_readOne_3 kk) (zC.mono H ?_)
  rintro r0 h2 ⟨rfl, H⟩
  show zX mX4_readOne 6 [.ref t, .ref p0, .int p1, .int p2] [] h2 Q
  refine zX_seg (pc' := 8) (L' := [.ref t, .ref p0, .int p1, .int p2]) (st' := [.int p1, .ref t]) (h2 := h2) rfl rfl (fun C Cr hc kk => x_aload_n C (v := .ref t) rfl rfl dX4_readOne_6 (x_iload_n C rfl dX4_readOne_7 (kk))) ?_
  obtain ⟨g3, H⟩ := H
  refine zX_call (as := [.ref t, .int p1]) (st := []) (fun C hM hc kk => f_callV C [.int p1] hM kX4_beginBallot vX4_beginBallot lX4_82 ⟨by decide, by decide⟩ (rfl : vwCl[4]? = some (RX4, TX4, 14)) g3 rfl hc (Nat.le_of_ble_eq_true rfl) rfl dX4_readOne_8 kk) (zC.mono H ?_)
  rintro r0 h4 ⟨rfl, H⟩
  show zX mX4_readOne 11 [.ref t, .ref p0, .int p1, .int p2] [] h4 Q
  refine zX_seg (pc' := 12) (L' := [.ref t, .ref p0, .int p1, .int p2]) (st' := [.ref t]) (h2 := h4) rfl rfl (fun C Cr hc kk => x_aload_n C (v := .ref t) rfl rfl dX4_readOne_11 (kk)) ?_
  obtain ⟨g5, H⟩ := H
  refine zX_call (as := [.ref t]) (st := []) (fun C hM hc kk => f_callV C [] hM kX4_readWording vX4_readWording lX4_57 ⟨by decide, by decide⟩ (rfl : vwCl[4]? = some (RX4, TX4, 14)) g5 rfl hc (Nat.le_of_ble_eq_true rfl) rfl dX4_readOne_12 kk) (zC.mono H ?_)
  rintro r0 h6 ⟨x7, rfl, H⟩
  show zX mX4_readOne 15 [.ref t, .ref p0, .int p1, .int p2] [.int x7] h6 Q
  refine zX_br (p1 := 42) (p2 := 18) (st' := []) (x7 = 0) (fun C kt kf => x_if_eq C 42 dX4_readOne_15 (by decide) kt kf) (fun q8 => ?_) (fun q8 => ?_)
  · replace H := H.1 q8
    refine zX_seg (pc' := 43) (L' := [.ref t, .ref p0, .int p1, .int p2]) (st' := [.int (0 : Int32)]) (h2 := h6) rfl rfl (fun C Cr hc kk => x_iconst C (0 : Int32) (by decide) dX4_readOne_42 (kk)) ?_
    exact zX_ret (some (.int (0 : Int32))) (fun C Cr hc => x_iret C Cr rfl rfl hc dX4_readOne_43 ⟨rfl, rfl⟩) H
  · replace H := H.2 q8
    obtain ⟨g9, H⟩ := H
    obtain ⟨a10, ea10, H⟩ := H
    obtain ⟨g11, H⟩ := H
    refine zX_seg (pc' := 27) (L' := [.ref t, .ref p0, .int p1, .int p2]) (st' := [.int (30 : Int32), .int (gI h6 a10 8)]) (h2 := h6) rfl rfl (fun C Cr hc kk => x_aload_n C (v := .ref t) rfl rfl dX4_readOne_18 (f_getR1 C lX4_12 g9 rfl ea10 dX4_readOne_19 (f_getIN C lX4_41 g11 rfl dX4_readOne_22 (x_bipush C (30 : Int32) (by decide) dX4_readOne_25 (kk))))) ?_
    refine zX_br (p1 := 38) (p2 := 30) (st' := []) ((gI h6 a10 8) = (30 : Int32)) (fun C kt kf => x_icmp_eq C 38 dX4_readOne_27 (by decide) kt kf) (fun q12 => ?_) (fun q12 => ?_)
    · replace H := H.1 q12
      refine zX_seg (pc' := 43) (L' := [.ref t, .ref p0, .int p1, .int p2]) (st' := [.int (1 : Int32)]) (h2 := h6) rfl rfl (fun C Cr hc kk => x_iconst C (1 : Int32) (by decide) dX4_readOne_38 (x_goto C 43 dX4_readOne_39 (by decide) (kk))) ?_
      exact zX_ret (some (.int (1 : Int32))) (fun C Cr hc => x_iret C Cr rfl rfl hc dX4_readOne_43 ⟨rfl, rfl⟩) H
    · replace H := H.2 q12
      refine zX_seg (pc' := 32) (L' := [.ref t, .ref p0, .int p1, .int p2]) (st' := [.int (2 : Int32), .ref t]) (h2 := h6) rfl rfl (fun C Cr hc kk => x_aload_n C (v := .ref t) rfl rfl dX4_readOne_30 (x_iconst C (2 : Int32) (by decide) dX4_readOne_31 (kk))) ?_
      refine zX_call (as := [.ref t, .int (2 : Int32)]) (st := []) (fun C hM hc kk => f_callV C [.int (2 : Int32)] hM kX4_fail vX4_fail lX4_75 ⟨by decide, by decide⟩ (rfl : vwCl[4]? = some (RX4, TX4, 14)) g9 rfl hc (Nat.le_of_ble_eq_true rfl) rfl dX4_readOne_32 kk) (zC.mono H ?_)
      rintro r0 h13 ⟨x14, rfl, H⟩
      show zX mX4_readOne 35 [.ref t, .ref p0, .int p1, .int p2] [.int x14] h13 Q
      refine zX_br (p1 := 42) (p2 := 38) (st' := []) (x14 = 0) (fun C kt kf => x_if_eq C 42 dX4_readOne_35 (by decide) kt kf) (fun q15 => ?_) (fun q15 => ?_)
      · replace H := H.1 q15
        refine zX_seg (pc' := 43) (L' := [.ref t, .ref p0, .int p1, .int p2]) (st' := [.int (0 : Int32)]) (h2 := h13) rfl rfl (fun C Cr hc kk => x_iconst C (0 : Int32) (by decide) dX4_readOne_42 (kk)) ?_
        exact zX_ret (some (.int (0 : Int32))) (fun C Cr hc => x_iret C Cr rfl rfl hc dX4_readOne_43 ⟨rfl, rfl⟩) H
      · replace H := H.2 q15
        refine zX_seg (pc' := 43) (L' := [.ref t, .ref p0, .int p1, .int p2]) (st' := [.int (1 : Int32)]) (h2 := h13) rfl rfl (fun C Cr hc kk => x_iconst C (1 : Int32) (by decide) dX4_readOne_38 (x_goto C 43 dX4_readOne_39 (by decide) (kk))) ?_
        exact zX_ret (some (.int (1 : Int32))) (fun C Cr hc => x_iret C Cr rfl rfl hc dX4_readOne_43 ⟨rfl, rfl⟩) H
theorem nX4_readOne (t : Nat) (p0 : Nat) (p1 : Int32) (p2 : Int32) (h : zH) (Q : Option Value → zH → Prop) (H : zX mX4_readOne 0 [.ref t, .ref p0, .int p1, .int p2] [] h Q) : zC mX4_readOne [.ref t, .ref p0, .int p1, .int p2] h Q := zC_of (by decide +kernel) (by simp) (Nat.le_of_ble_eq_true rfl) H
set_option maxHeartbeats 20000000 in
theorem bX4_ballot_0 (t : Nat) (h : zH) (Q : Option Value → zH → Prop) (H : oK h t 4 ∧ (∃ a2 : Nat, gR h t 1 = some a2 ∧ (iK h a2 0 ∧ (zC mJ7_copyOf_59c91 [.ref a2, .int (if (nI (aN h a2)) < (if (gI h t 4) < (0 : Int32) then (0 : Int32) else (gI h t 4)) then (nI (aN h a2)) else (if (gI h t 4) < (0 : Int32) then (0 : Int32) else (gI h t 4)))] h (fun r0 h4 => ∃ x5 : Option Nat, r0 = some (zr x5) ∧ (∃ a6 : Nat, x5 = some a6 ∧ (∀ h7 : zH, h7 = (zn h4 (zO 0 [.null, .int 0, .int 0, .int 0])) → (oK h7 t 4 ∧ (zC mX0_init [.ref (h4.1), .ref a6, .int ((gI h7 t 8) - (gI h7 t 9)), .int (gI h7 t 10), .int (gI h7 t 11)] h7 (fun r0 h10 => r0 = none ∧ (Q (some (zr (some h4.1))) h10))))))))))) : zX mX4_ballot 0 [.ref t, .float 0] [] h Q := by
  obtain ⟨g1, H⟩ := H
  obtain ⟨a2, ea2, H⟩ := H
  obtain ⟨g3, H⟩ := H
  refine zX_seg (pc' := 20) (L' := [.ref t, .float 0]) (st' := [.int (if (nI (aN h a2)) < (if (gI h t 4) < (0 : Int32) then (0 : Int32) else (gI h t 4)) then (nI (aN h a2)) else (if (gI h t 4) < (0 : Int32) then (0 : Int32) else (gI h t 4))), .ref a2]) (h2 := h) rfl rfl (fun C Cr hc kk => x_aload_n C (v := .ref t) rfl rfl dX4_ballot_0 (f_getR1 C lX4_18 g1 rfl ea2 dX4_ballot_1 (x_aload_n C (v := .ref t) rfl rfl dX4_ballot_4 (f_getI C lX4_86 g1 rfl dX4_ballot_5 (x_iconst C (0 : Int32) (by decide) dX4_ballot_8 (f_mmax C lX4_89 mm_max_s mm_i mm_max_c ⟨by decide, by decide⟩ hc (Nat.le_of_ble_eq_true rfl) dX4_ballot_9 (x_aload_n C (v := .ref t) rfl rfl dX4_ballot_12 (f_getR1 C lX4_18 g1 rfl ea2 dX4_ballot_13 (f_alenI C (by decide) g3 dX4_ballot_16 (f_mmin C lX4_95 mm_min_s mm_i mm_min_c ⟨by decide, by decide⟩ hc (Nat.le_of_ble_eq_true rfl) dX4_ballot_17 (kk))))))))))) ?_
  refine zX_call (as := [.ref a2, .int (if (nI (aN h a2)) < (if (gI h t 4) < (0 : Int32) then (0 : Int32) else (gI h t 4)) then (nI (aN h a2)) else (if (gI h t 4) < (0 : Int32) then (0 : Int32) else (gI h t 4)))]) (st := []) (fun C hM hc kk => x_callS C [.ref a2, .int (if (nI (aN h a2)) < (if (gI h t 4) < (0 : Int32) then (0 : Int32) else (gI h t 4)) then (nI (aN h a2)) else (if (gI h t 4) < (0 : Int32) then (0 : Int32) else (gI h t 4)))] hM kJ7_copyOf_59c91 sJ7_copyOf_59c91 lX4_98 ⟨by decide, by decide⟩ rfl hc (Nat.le_of_ble_eq_true rfl) rfl dX4_ballot_20 kk) (zC.mono H ?_)
  rintro r0 h4 ⟨x5, rfl, H⟩
  show zX mX4_ballot 23 [.ref t, .float 0] [zr x5] h4 Q
  obtain ⟨a6, rfl, H⟩ := H
  refine zX_seg (pc' := 24) (L' := [.ref t, .ref a6]) (st' := []) (h2 := h4) rfl rfl (fun C Cr hc kk => x_astore_n C rfl (by decide) dX4_ballot_23 (kk)) ?_
  refine zX_new (pc' := 27) (L' := [.ref t, .ref a6]) (st' := [.ref (h4.1)]) (e := (zO 0 [.null, .int 0, .int 0, .int 0])) (fun C z1 z2 kk => x_new C [.null, .int 0, .int 0, .int 0] (hcl := (rfl : vwCl[0]? = some (RX0, TX0, 4))) tX0 wX0 ⟨lX4_104, qX0⟩ rfl z1 z2 dX4_ballot_24 kk) ?_
  obtain ⟨h7, eh7⟩ : ∃ y : zH, y = (zn h4 (zO 0 [.null, .int 0, .int 0, .int 0])) := ⟨_, rfl⟩
  replace H := H h7 eh7
  rw [← eh7]
  have g8 : oK h7 h4.1 0 := by rw [eh7]; exact oK_new rfl
  obtain ⟨g9, H⟩ := H
  refine zX_seg (pc' := 46) (L' := [.ref t, .ref a6]) (st' := [.int (gI h7 t 11), .int (gI h7 t 10), .int ((gI h7 t 8) - (gI h7 t 9)), .ref a6, .ref (h4.1), .ref (h4.1)]) (h2 := h7) rfl rfl (fun C Cr hc kk => x_dup C rfl dX4_ballot_27 (x_aload_n C (v := .ref a6) rfl rfl dX4_ballot_28 (x_aload_n C (v := .ref t) rfl rfl dX4_ballot_29 (f_getI C lX4_106 g9 rfl dX4_ballot_30 (x_aload_n C (v := .ref t) rfl rfl dX4_ballot_33 (f_getI C lX4_109 g9 rfl dX4_ballot_34 (x_isub C dX4_ballot_37 (x_aload_n C (v := .ref t) rfl rfl dX4_ballot_38 (f_getI C lX4_112 g9 rfl dX4_ballot_39 (x_aload_n C (v := .ref t) rfl rfl dX4_ballot_42 (f_getI C lX4_115 g9 rfl dX4_ballot_43 (kk)))))))))))) ?_
  refine zX_call (as := [.ref (h4.1), .ref a6, .int ((gI h7 t 8) - (gI h7 t 9)), .int (gI h7 t 10), .int (gI h7 t 11)]) (st := [.ref (h4.1)]) (fun C hM hc kk => x_callIN C [.ref a6, .int ((gI h7 t 8) - (gI h7 t 9)), .int (gI h7 t 10), .int (gI h7 t 11)] hM kX0_init iX0_init ⟨rfl, rfl⟩ lX4_118 ⟨by decide, by decide⟩ rfl hc (Nat.le_of_ble_eq_true rfl) rfl dX4_ballot_46 kk) (zC.mono H ?_)
  rintro r0 h10 ⟨rfl, H⟩
  show zX mX4_ballot 49 [.ref t, .ref a6] [.ref (h4.1)] h10 Q
  exact zX_ret (some (zr (some h4.1))) (fun C Cr hc => x_aret C Cr ⟨_, rfl, Or.inl ⟨_, rfl⟩⟩ rfl hc dX4_ballot_49 ⟨rfl, rfl⟩) H
theorem nX4_ballot (t : Nat) (h : zH) (Q : Option Value → zH → Prop) (H : zX mX4_ballot 0 [.ref t, .float 0] [] h Q) : zC mX4_ballot [.ref t] h Q := zC_of (by decide +kernel) (by simp) (Nat.le_of_ble_eq_true rfl) H
set_option maxHeartbeats 20000000 in
theorem bX4_begin_0 (t : Nat) (p0 : Nat) (p1 : Int32) (h : zH) (Q : Option Value → zH → Prop) (H : oK h t 4 ∧ (∀ h2 : zH, h2 = (pF h t 3 (zr (some p0))) → (∀ h4 : zH, h4 = (pF h2 t 8 (.int p1)) → (∀ h6 : zH, h6 = (pF h4 t 12 (.int (0 : Int32))) → (∀ h8 : zH, h8 = (pF h6 t 13 (.int (-1 : Int32))) → (∃ a10 : Nat, gR h8 t 0 = some a10 ∧ (oK h8 a10 8 ∧ (zC mX8_rewind [.ref a10] h8 (fun r0 h12 => r0 = none ∧ (Q none h12)))))))))) : zX mX4_begin 0 [.ref t, .ref p0, .int p1] [] h Q := by
  obtain ⟨g1, H⟩ := H
  refine zX_seg (pc' := 5) (L' := [.ref t, .ref p0, .int p1]) (st' := []) (h2 := (pF h t 3 (zr (some p0)))) rfl rfl (fun C Cr hc kk => x_aload_n C (v := .ref t) rfl rfl dX4_begin_0 (x_aload_n C (v := .ref p0) rfl rfl dX4_begin_1 (f_putR C (x := (some p0)) lX4_60 tX4 nX4_3 g1 rfl (Or.inl ⟨_, rfl⟩) dX4_begin_2 (kk)))) ?_
  obtain ⟨h2, eh2⟩ : ∃ y : zH, y = (pF h t 3 (zr (some p0))) := ⟨_, rfl⟩
  replace H := H h2 eh2
  rw [← eh2]
  have g3 : oK h2 t 4 := by rw [eh2]; exact oK_pF' g1 rfl (zmr _) g1
  refine zX_seg (pc' := 10) (L' := [.ref t, .ref p0, .int p1]) (st' := []) (h2 := (pF h2 t 8 (.int p1))) rfl rfl (fun C Cr hc kk => x_aload_n C (v := .ref t) rfl rfl dX4_begin_5 (x_iload_n C rfl dX4_begin_6 (f_putI C lX4_106 tX4 nX4_8 g3 rfl rfl dX4_begin_7 (kk)))) ?_
  obtain ⟨h4, eh4⟩ : ∃ y : zH, y = (pF h2 t 8 (.int p1)) := ⟨_, rfl⟩
  replace H := H h4 eh4
  rw [← eh4]
  have g5 : oK h4 t 4 := by rw [eh4]; exact oK_pF' g3 rfl rfl g3
  refine zX_seg (pc' := 15) (L' := [.ref t, .ref p0, .int p1]) (st' := []) (h2 := (pF h4 t 12 (.int (0 : Int32)))) rfl rfl (fun C Cr hc kk => x_aload_n C (v := .ref t) rfl rfl dX4_begin_10 (x_iconst C (0 : Int32) (by decide) dX4_begin_11 (f_putI C lX4_38 tX4 nX4_12 g5 rfl rfl dX4_begin_12 (kk)))) ?_
  obtain ⟨h6, eh6⟩ : ∃ y : zH, y = (pF h4 t 12 (.int (0 : Int32))) := ⟨_, rfl⟩
  replace H := H h6 eh6
  rw [← eh6]
  have g7 : oK h6 t 4 := by rw [eh6]; exact oK_pF' g5 rfl rfl g5
  refine zX_seg (pc' := 20) (L' := [.ref t, .ref p0, .int p1]) (st' := []) (h2 := (pF h6 t 13 (.int (-1 : Int32)))) rfl rfl (fun C Cr hc kk => x_aload_n C (v := .ref t) rfl rfl dX4_begin_15 (x_iconst C (-1 : Int32) (by decide) dX4_begin_16 (f_putI C lX4_25 tX4 nX4_13 g7 rfl rfl dX4_begin_17 (kk)))) ?_
  obtain ⟨h8, eh8⟩ : ∃ y : zH, y = (pF h6 t 13 (.int (-1 : Int32))) := ⟨_, rfl⟩
  replace H := H h8 eh8
  rw [← eh8]
  have g9 : oK h8 t 4 := by rw [eh8]; exact oK_pF' g7 rfl rfl g7
  obtain ⟨a10, ea10, H⟩ := H
  refine zX_seg (pc' := 24) (L' := [.ref t, .ref p0, .int p1]) (st' := [.ref a10]) (h2 := h8) rfl rfl (fun C Cr hc kk => x_aload_n C (v := .ref t) rfl rfl dX4_begin_20 (f_getR1 C lX4_12 g9 rfl ea10 dX4_begin_21 (kk))) ?_
  obtain ⟨g11, H⟩ := H
  refine zX_call (as := [.ref a10]) (st := []) (fun C hM hc kk => f_callVN C [] hM kX8_rewind vX8_rewind lX4_121 ⟨by decide, by decide⟩ (rfl : vwCl[8]? = some (RX8, TX8, 11)) g11 rfl hc (Nat.le_of_ble_eq_true rfl) rfl dX4_begin_24 kk) (zC.mono H ?_)
  rintro r0 h12 ⟨rfl, H⟩
  show zX mX4_begin 27 [.ref t, .ref p0, .int p1] [] h12 Q
  exact zX_ret none (fun C Cr hc => x_ret C Cr rfl hc dX4_begin_27 ⟨rfl, rfl⟩) H
theorem nX4_begin (t : Nat) (p0 : Nat) (p1 : Int32) (h : zH) (Q : Option Value → zH → Prop) (H : zX mX4_begin 0 [.ref t, .ref p0, .int p1] [] h Q) : zC mX4_begin [.ref t, .ref p0, .int p1] h Q := zC_of (by decide +kernel) (by simp) (Nat.le_of_ble_eq_true rfl) H
set_option maxHeartbeats 20000000 in
theorem bX4_beginBallot_0 (t : Nat) (p0 : Int32) (h : zH) (Q : Option Value → zH → Prop) (H : oK h t 4 ∧ (∀ h2 : zH, h2 = (pF h t 7 (.int p0)) → (∀ h4 : zH, h4 = (pF h2 t 9 (.int (gI h2 t 8))) → (∀ h6 : zH, h6 = (pF h4 t 10 (.int (0 : Int32))) → (∀ h8 : zH, h8 = (pF h6 t 11 (.int (0 : Int32))) → (∀ h10 : zH, h10 = (pF h8 t 4 (.int (0 : Int32))) → (∀ h12 : zH, h12 = (pF h10 t 5 (.int (0 : Int32))) → (∀ h14 : zH, h14 = (pF h12 t 6 (.int (0 : Int32))) → (Q none h14))))))))) : zX mX4_beginBallot 0 [.ref t, .int p0] [] h Q := by
  obtain ⟨g1, H⟩ := H
  refine zX_seg (pc' := 5) (L' := [.ref t, .int p0]) (st' := []) (h2 := (pF h t 7 (.int p0))) rfl rfl (fun C Cr hc kk => x_aload_n C (v := .ref t) rfl rfl dX4_beginBallot_0 (x_iload_n C rfl dX4_beginBallot_1 (f_putI C lX4_64 tX4 nX4_7 g1 rfl rfl dX4_beginBallot_2 (kk)))) ?_
  obtain ⟨h2, eh2⟩ : ∃ y : zH, y = (pF h t 7 (.int p0)) := ⟨_, rfl⟩
  replace H := H h2 eh2
  rw [← eh2]
  have g3 : oK h2 t 4 := by rw [eh2]; exact oK_pF' g1 rfl rfl g1
  refine zX_seg (pc' := 13) (L' := [.ref t, .int p0]) (st' := []) (h2 := (pF h2 t 9 (.int (gI h2 t 8)))) rfl rfl (fun C Cr hc kk => x_aload_n C (v := .ref t) rfl rfl dX4_beginBallot_5 (x_aload_n C (v := .ref t) rfl rfl dX4_beginBallot_6 (f_getI C lX4_106 g3 rfl dX4_beginBallot_7 (f_putI C lX4_109 tX4 nX4_9 g3 rfl rfl dX4_beginBallot_10 (kk))))) ?_
  obtain ⟨h4, eh4⟩ : ∃ y : zH, y = (pF h2 t 9 (.int (gI h2 t 8))) := ⟨_, rfl⟩
  replace H := H h4 eh4
  rw [← eh4]
  have g5 : oK h4 t 4 := by rw [eh4]; exact oK_pF' g3 rfl rfl g3
  refine zX_seg (pc' := 18) (L' := [.ref t, .int p0]) (st' := []) (h2 := (pF h4 t 10 (.int (0 : Int32)))) rfl rfl (fun C Cr hc kk => x_aload_n C (v := .ref t) rfl rfl dX4_beginBallot_13 (x_iconst C (0 : Int32) (by decide) dX4_beginBallot_14 (f_putI C lX4_112 tX4 nX4_10 g5 rfl rfl dX4_beginBallot_15 (kk)))) ?_
  obtain ⟨h6, eh6⟩ : ∃ y : zH, y = (pF h4 t 10 (.int (0 : Int32))) := ⟨_, rfl⟩
  replace H := H h6 eh6
  rw [← eh6]
  have g7 : oK h6 t 4 := by rw [eh6]; exact oK_pF' g5 rfl rfl g5
  refine zX_seg (pc' := 23) (L' := [.ref t, .int p0]) (st' := []) (h2 := (pF h6 t 11 (.int (0 : Int32)))) rfl rfl (fun C Cr hc kk => x_aload_n C (v := .ref t) rfl rfl dX4_beginBallot_18 (x_iconst C (0 : Int32) (by decide) dX4_beginBallot_19 (f_putI C lX4_115 tX4 nX4_11 g7 rfl rfl dX4_beginBallot_20 (kk)))) ?_
  obtain ⟨h8, eh8⟩ : ∃ y : zH, y = (pF h6 t 11 (.int (0 : Int32))) := ⟨_, rfl⟩
  replace H := H h8 eh8
  rw [← eh8]
  have g9 : oK h8 t 4 := by rw [eh8]; exact oK_pF' g7 rfl rfl g7
  refine zX_seg (pc' := 28) (L' := [.ref t, .int p0]) (st' := []) (h2 := (pF h8 t 4 (.int (0 : Int32)))) rfl rfl (fun C Cr hc kk => x_aload_n C (v := .ref t) rfl rfl dX4_beginBallot_23 (x_iconst C (0 : Int32) (by decide) dX4_beginBallot_24 (f_putI C lX4_86 tX4 nX4_4 g9 rfl rfl dX4_beginBallot_25 (kk)))) ?_
  obtain ⟨h10, eh10⟩ : ∃ y : zH, y = (pF h8 t 4 (.int (0 : Int32))) := ⟨_, rfl⟩
  replace H := H h10 eh10
  rw [← eh10]
  have g11 : oK h10 t 4 := by rw [eh10]; exact oK_pF' g9 rfl rfl g9
  refine zX_seg (pc' := 33) (L' := [.ref t, .int p0]) (st' := []) (h2 := (pF h10 t 5 (.int (0 : Int32)))) rfl rfl (fun C Cr hc kk => x_aload_n C (v := .ref t) rfl rfl dX4_beginBallot_28 (x_iconst C (0 : Int32) (by decide) dX4_beginBallot_29 (f_putI C lX4_124 tX4 nX4_5 g11 rfl rfl dX4_beginBallot_30 (kk)))) ?_
  obtain ⟨h12, eh12⟩ : ∃ y : zH, y = (pF h10 t 5 (.int (0 : Int32))) := ⟨_, rfl⟩
  replace H := H h12 eh12
  rw [← eh12]
  have g13 : oK h12 t 4 := by rw [eh12]; exact oK_pF' g11 rfl rfl g11
  refine zX_seg (pc' := 38) (L' := [.ref t, .int p0]) (st' := []) (h2 := (pF h12 t 6 (.int (0 : Int32)))) rfl rfl (fun C Cr hc kk => x_aload_n C (v := .ref t) rfl rfl dX4_beginBallot_33 (x_iconst C (0 : Int32) (by decide) dX4_beginBallot_34 (f_putI C lX4_127 tX4 nX4_6 g13 rfl rfl dX4_beginBallot_35 (kk)))) ?_
  obtain ⟨h14, eh14⟩ : ∃ y : zH, y = (pF h12 t 6 (.int (0 : Int32))) := ⟨_, rfl⟩
  replace H := H h14 eh14
  rw [← eh14]
  have g15 : oK h14 t 4 := by rw [eh14]; exact oK_pF' g13 rfl rfl g13
  exact zX_ret none (fun C Cr hc => x_ret C Cr rfl hc dX4_beginBallot_38 ⟨rfl, rfl⟩) H
theorem nX4_beginBallot (t : Nat) (p0 : Int32) (h : zH) (Q : Option Value → zH → Prop) (H : zX mX4_beginBallot 0 [.ref t, .int p0] [] h Q) : zC mX4_beginBallot [.ref t, .int p0] h Q := zC_of (by decide +kernel) (by simp) (Nat.le_of_ble_eq_true rfl) H
set_option maxHeartbeats 20000000 in
theorem bX4_fail_0 (t : Nat) (p0 : Int32) (h : zH) (Q : Option Value → zH → Prop) (H : oK h t 4 ∧ (((gI h t 12) = 0 → (∃ a3 : Nat, gR h t 0 = some a3 ∧ (oK h a3 8 ∧ (((gI h a3 8) = (31 : Int32) → (∀ h6 : zH, h6 = (pF h t 12 (.int (1 : Int32))) → (∃ a9 : Nat, gR h6 t 0 = some a9 ∧ (oK h6 a9 8 ∧ (∀ h11 : zH, h11 = (pF h6 t 13 (.int (gI h6 a9 9))) → (Q (some (.int (0 : Int32))) h11)))))) ∧ (¬ ((gI h a3 8) = (31 : Int32)) → (∀ h15 : zH, h15 = (pF h t 12 (.int p0)) → (∃ a18 : Nat, gR h15 t 0 = some a18 ∧ (oK h15 a18 8 ∧ (∀ h20 : zH, h20 = (pF h15 t 13 (.int (gI h15 a18 9))) → (Q (some (.int (0 : Int32))) h20)))))))))) ∧ (¬ ((gI h t 12) = 0) → (Q (some (.int (0 : Int32))) h)))) : zX mX4_fail 0 [.ref t, .int p0] [] h Q := by
  obtain ⟨g1, H⟩ := H
  refine zX_seg (pc' := 4) (L' := [.ref t, .int p0]) (st' := [.int (gI h t 12)]) (h2 := h) rfl rfl (fun C Cr hc kk => x_aload_n C (v := .ref t) rfl rfl dX4_fail_0 (f_getI C lX4_38 g1 rfl dX4_fail_1 (kk))) ?_
  refine zX_br (p1 := 7) (p2 := 39) (st' := []) ((gI h t 12) = 0) (fun C kt kf => x_if_ne C 39 dX4_fail_4 (by decide) kf kt) (fun q2 => ?_) (fun q2 => ?_)
  · replace H := H.1 q2
    obtain ⟨a3, ea3, H⟩ := H
    obtain ⟨g4, H⟩ := H
    refine zX_seg (pc' := 17) (L' := [.ref t, .int p0]) (st' := [.int (31 : Int32), .int (gI h a3 8), .ref t]) (h2 := h) rfl rfl (fun C Cr hc kk => x_aload_n C (v := .ref t) rfl rfl dX4_fail_7 (x_aload_n C (v := .ref t) rfl rfl dX4_fail_8 (f_getR1 C lX4_12 g1 rfl ea3 dX4_fail_9 (f_getIN C lX4_41 g4 rfl dX4_fail_12 (x_bipush C (31 : Int32) (by decide) dX4_fail_15 (kk)))))) ?_
    refine zX_br (p1 := 20) (p2 := 24) (st' := [.ref t]) ((gI h a3 8) = (31 : Int32)) (fun C kt kf => x_icmp_ne C 24 dX4_fail_17 (by decide) kf kt) (fun q5 => ?_) (fun q5 => ?_)
    · replace H := H.1 q5
      refine zX_seg (pc' := 28) (L' := [.ref t, .int p0]) (st' := []) (h2 := (pF h t 12 (.int (1 : Int32)))) rfl rfl (fun C Cr hc kk => x_iconst C (1 : Int32) (by decide) dX4_fail_20 (x_goto C 25 dX4_fail_21 (by decide) (f_putI C lX4_38 tX4 nX4_12 g1 rfl rfl dX4_fail_25 (kk)))) ?_
      obtain ⟨h6, eh6⟩ : ∃ y : zH, y = (pF h t 12 (.int (1 : Int32))) := ⟨_, rfl⟩
      replace H := H h6 eh6
      rw [← eh6]
      have g7 : oK h6 t 4 := by rw [eh6]; exact oK_pF' g1 rfl rfl g1
      have g8 : oK h6 a3 8 := by rw [eh6]; exact oK_pF' g1 rfl rfl g4
      obtain ⟨a9, ea9, H⟩ := H
      obtain ⟨g10, H⟩ := H
      refine zX_seg (pc' := 39) (L' := [.ref t, .int p0]) (st' := []) (h2 := (pF h6 t 13 (.int (gI h6 a9 9)))) rfl rfl (fun C Cr hc kk => x_aload_n C (v := .ref t) rfl rfl dX4_fail_28 (x_aload_n C (v := .ref t) rfl rfl dX4_fail_29 (f_getR1 C lX4_12 g7 rfl ea9 dX4_fail_30 (f_getIN C lX4_130 g10 rfl dX4_fail_33 (f_putI C lX4_25 tX4 nX4_13 g7 rfl rfl dX4_fail_36 (kk)))))) ?_
      obtain ⟨h11, eh11⟩ : ∃ y : zH, y = (pF h6 t 13 (.int (gI h6 a9 9))) := ⟨_, rfl⟩
      replace H := H h11 eh11
      rw [← eh11]
      have g12 : oK h11 t 4 := by rw [eh11]; exact oK_pF' g7 rfl rfl g7
      have g13 : oK h11 a3 8 := by rw [eh11]; exact oK_pF' g7 rfl rfl g8
      have g14 : oK h11 a9 8 := by rw [eh11]; exact oK_pF' g7 rfl rfl g10
      refine zX_seg (pc' := 40) (L' := [.ref t, .int p0]) (st' := [.int (0 : Int32)]) (h2 := h11) rfl rfl (fun C Cr hc kk => x_iconst C (0 : Int32) (by decide) dX4_fail_39 (kk)) ?_
      exact zX_ret (some (.int (0 : Int32))) (fun C Cr hc => x_iret C Cr rfl rfl hc dX4_fail_40 ⟨rfl, rfl⟩) H
    · replace H := H.2 q5
      refine zX_seg (pc' := 28) (L' := [.ref t, .int p0]) (st' := []) (h2 := (pF h t 12 (.int p0))) rfl rfl (fun C Cr hc kk => x_iload_n C rfl dX4_fail_24 (f_putI C lX4_38 tX4 nX4_12 g1 rfl rfl dX4_fail_25 (kk))) ?_
      obtain ⟨h15, eh15⟩ : ∃ y : zH, y = (pF h t 12 (.int p0)) := ⟨_, rfl⟩
      replace H := H h15 eh15
      rw [← eh15]
      have g16 : oK h15 t 4 := by rw [eh15]; exact oK_pF' g1 rfl rfl g1
      have g17 : oK h15 a3 8 := by rw [eh15]; exact oK_pF' g1 rfl rfl g4
      obtain ⟨a18, ea18, H⟩ := H
      obtain ⟨g19, H⟩ := H
      refine zX_seg (pc' := 39) (L' := [.ref t, .int p0]) (st' := []) (h2 := (pF h15 t 13 (.int (gI h15 a18 9)))) rfl rfl (fun C Cr hc kk => x_aload_n C (v := .ref t) rfl rfl dX4_fail_28 (x_aload_n C (v := .ref t) rfl rfl dX4_fail_29 (f_getR1 C lX4_12 g16 rfl ea18 dX4_fail_30 (f_getIN C lX4_130 g19 rfl dX4_fail_33 (f_putI C lX4_25 tX4 nX4_13 g16 rfl rfl dX4_fail_36 (kk)))))) ?_
      obtain ⟨h20, eh20⟩ : ∃ y : zH, y = (pF h15 t 13 (.int (gI h15 a18 9))) := ⟨_, rfl⟩
      replace H := H h20 eh20
      rw [← eh20]
      have g21 : oK h20 t 4 := by rw [eh20]; exact oK_pF' g16 rfl rfl g16
      have g22 : oK h20 a3 8 := by rw [eh20]; exact oK_pF' g16 rfl rfl g17
      have g23 : oK h20 a18 8 := by rw [eh20]; exact oK_pF' g16 rfl rfl g19
      refine zX_seg (pc' := 40) (L' := [.ref t, .int p0]) (st' := [.int (0 : Int32)]) (h2 := h20) rfl rfl (fun C Cr hc kk => x_iconst C (0 : Int32) (by decide) dX4_fail_39 (kk)) ?_
      exact zX_ret (some (.int (0 : Int32))) (fun C Cr hc => x_iret C Cr rfl rfl hc dX4_fail_40 ⟨rfl, rfl⟩) H
  · replace H := H.2 q2
    refine zX_seg (pc' := 40) (L' := [.ref t, .int p0]) (st' := [.int (0 : Int32)]) (h2 := h) rfl rfl (fun C Cr hc kk => x_iconst C (0 : Int32) (by decide) dX4_fail_39 (kk)) ?_
    exact zX_ret (some (.int (0 : Int32))) (fun C Cr hc => x_iret C Cr rfl rfl hc dX4_fail_40 ⟨rfl, rfl⟩) H
theorem nX4_fail (t : Nat) (p0 : Int32) (h : zH) (Q : Option Value → zH → Prop) (H : zX mX4_fail 0 [.ref t, .int p0] [] h Q) : zC mX4_fail [.ref t, .int p0] h Q := zC_of (by decide +kernel) (by simp) (Nat.le_of_ble_eq_true rfl) H
set_option maxHeartbeats 20000000 in
theorem bX4_take_0 (t : Nat) (p0 : Int32) (h : zH) (Q : Option Value → zH → Prop) (H : oK h t 4 ∧ (((gI h t 12) = 0 → (∃ a3 : Nat, gR h t 0 = some a3 ∧ (oK h a3 8 ∧ (((gI h a3 8) = p0 → (zC mX8_advance [.ref a3] h (fun r0 h6 => r0 = none ∧ (Q (some (.int (1 : Int32))) h6)))) ∧ (¬ ((gI h a3 8) = p0) → (zC mX4_fail [.ref t, .int (2 : Int32)] h (fun r0 h7 => ∃ x8 : Int32, r0 = some (.int x8) ∧ ((x8 = 0 ∨ x8 = 1) ∧ (Q (some (.int x8)) h7))))))))) ∧ (¬ ((gI h t 12) = 0) → (zC mX4_fail [.ref t, .int (2 : Int32)] h (fun r0 h10 => ∃ x11 : Int32, r0 = some (.int x11) ∧ ((x11 = 0 ∨ x11 = 1) ∧ (Q (some (.int x11)) h10))))))) : zX mX4_take 0 [.ref t, .int p0] [] h Q := by
  obtain ⟨g1, H⟩ := H
  refine zX_seg (pc' := 4) (L' := [.ref t, .int p0]) (st' := [.int (gI h t 12)]) (h2 := h) rfl rfl (fun C Cr hc kk => x_aload_n C (v := .ref t) rfl rfl dX4_take_0 (f_getI C lX4_38 g1 rfl dX4_take_1 (kk))) ?_
  refine zX_br (p1 := 7) (p2 := 18) (st' := []) ((gI h t 12) = 0) (fun C kt kf => x_if_ne C 18 dX4_take_4 (by decide) kf kt) (fun q2 => ?_) (fun q2 => ?_)
  · replace H := H.1 q2
    obtain ⟨a3, ea3, H⟩ := H
    obtain ⟨g4, H⟩ := H
    refine zX_seg (pc' := 15) (L' := [.ref t, .int p0]) (st' := [.int p0, .int (gI h a3 8)]) (h2 := h) rfl rfl (fun C Cr hc kk => x_aload_n C (v := .ref t) rfl rfl dX4_take_7 (f_getR1 C lX4_12 g1 rfl ea3 dX4_take_8 (f_getIN C lX4_41 g4 rfl dX4_take_11 (x_iload_n C rfl dX4_take_14 (kk))))) ?_
    refine zX_br (p1 := 24) (p2 := 18) (st' := []) ((gI h a3 8) = p0) (fun C kt kf => x_icmp_eq C 24 dX4_take_15 (by decide) kt kf) (fun q5 => ?_) (fun q5 => ?_)
    · replace H := H.1 q5
      refine zX_seg (pc' := 28) (L' := [.ref t, .int p0]) (st' := [.ref a3]) (h2 := h) rfl rfl (fun C Cr hc kk => x_aload_n C (v := .ref t) rfl rfl dX4_take_24 (f_getR1 C lX4_12 g1 rfl ea3 dX4_take_25 (kk))) ?_
      refine zX_call (as := [.ref a3]) (st := []) (fun C hM hc kk => f_callVN C [] hM kX8_advance vX8_advance lX4_133 ⟨by decide, by decide⟩ (rfl : vwCl[8]? = some (RX8, TX8, 11)) g4 rfl hc (Nat.le_of_ble_eq_true rfl) rfl dX4_take_28 kk) (zC.mono H ?_)
      rintro r0 h6 ⟨rfl, H⟩
      show zX mX4_take 31 [.ref t, .int p0] [] h6 Q
      refine zX_seg (pc' := 32) (L' := [.ref t, .int p0]) (st' := [.int (1 : Int32)]) (h2 := h6) rfl rfl (fun C Cr hc kk => x_iconst C (1 : Int32) (by decide) dX4_take_31 (kk)) ?_
      exact zX_ret (some (.int (1 : Int32))) (fun C Cr hc => x_iret C Cr rfl rfl hc dX4_take_32 ⟨rfl, rfl⟩) H
    · replace H := H.2 q5
      refine zX_seg (pc' := 20) (L' := [.ref t, .int p0]) (st' := [.int (2 : Int32), .ref t]) (h2 := h) rfl rfl (fun C Cr hc kk => x_aload_n C (v := .ref t) rfl rfl dX4_take_18 (x_iconst C (2 : Int32) (by decide) dX4_take_19 (kk))) ?_
      refine zX_call (as := [.ref t, .int (2 : Int32)]) (st := []) (fun C hM hc kk => f_callV C [.int (2 : Int32)] hM kX4_fail vX4_fail lX4_75 ⟨by decide, by decide⟩ (rfl : vwCl[4]? = some (RX4, TX4, 14)) g1 rfl hc (Nat.le_of_ble_eq_true rfl) rfl dX4_take_20 kk) (zC.mono H ?_)
      rintro r0 h7 ⟨x8, rfl, H⟩
      show zX mX4_take 23 [.ref t, .int p0] [.int x8] h7 Q
      obtain ⟨g9, H⟩ := H
      exact zX_ret (some (.int x8)) (fun C Cr hc => x_iret C Cr rfl (by rcases g9 with z | z <;> rw [z] <;> rfl) hc dX4_take_23 ⟨rfl, rfl⟩) H
  · replace H := H.2 q2
    refine zX_seg (pc' := 20) (L' := [.ref t, .int p0]) (st' := [.int (2 : Int32), .ref t]) (h2 := h) rfl rfl (fun C Cr hc kk => x_aload_n C (v := .ref t) rfl rfl dX4_take_18 (x_iconst C (2 : Int32) (by decide) dX4_take_19 (kk))) ?_
    refine zX_call (as := [.ref t, .int (2 : Int32)]) (st := []) (fun C hM hc kk => f_callV C [.int (2 : Int32)] hM kX4_fail vX4_fail lX4_75 ⟨by decide, by decide⟩ (rfl : vwCl[4]? = some (RX4, TX4, 14)) g1 rfl hc (Nat.le_of_ble_eq_true rfl) rfl dX4_take_20 kk) (zC.mono H ?_)
    rintro r0 h10 ⟨x11, rfl, H⟩
    show zX mX4_take 23 [.ref t, .int p0] [.int x11] h10 Q
    obtain ⟨g12, H⟩ := H
    exact zX_ret (some (.int x11)) (fun C Cr hc => x_iret C Cr rfl (by rcases g12 with z | z <;> rw [z] <;> rfl) hc dX4_take_23 ⟨rfl, rfl⟩) H
theorem nX4_take (t : Nat) (p0 : Int32) (h : zH) (Q : Option Value → zH → Prop) (H : zX mX4_take 0 [.ref t, .int p0] [] h Q) : zC mX4_take [.ref t, .int p0] h Q := zC_of (by decide +kernel) (by simp) (Nat.le_of_ble_eq_true rfl) H
set_option maxHeartbeats 20000000 in
theorem bX4_tellName_0 (t : Nat) (h : zH) (Q : Option Value → zH → Prop) (H : oK h t 4 ∧ (∃ a2 : Nat, gR h t 3 = some a2 ∧ (oK h a2 10 ∧ (((gI h a2 6) < (3 : Int32) → (∃ a5 : Nat, gR h t 0 = some a5 ∧ (oK h a5 8 ∧ (zC mX8_advance [.ref a5] h (fun r0 h7 => r0 = none ∧ (oK h7 t 4 ∧ (∃ a9 : Nat, gR h7 t 3 = some a9 ∧ (oK h7 a9 10 ∧ (∃ a11 : Nat, gR h7 a9 0 = some a11 ∧ (zC mX4_takeNew [.ref t, .ref a11, .int (gI h7 a9 6)] h7 (fun r0 h12 => ∃ x13 : Int32, r0 = some (.int x13) ∧ ((x13 = 0 → (Q (some (.int (0 : Int32))) h12)) ∧ (¬ (x13 = 0) → (oK h12 t 4 ∧ (∃ a16 : Nat, gR h12 t 3 = some a16 ∧ (oK h12 a16 10 ∧ (∀ h18 : zH, h18 = (pF h12 a16 6 (.int ((gI h12 a16 6) + (1 : Int32)))) → (Q (some (.int (1 : Int32))) h18)))))))))))))))))) ∧ (¬ ((gI h a2 6) < (3 : Int32)) → (zC mX4_fail [.ref t, .int (2 : Int32)] h (fun r0 h21 => ∃ x22 : Int32, r0 = some (.int x22) ∧ ((x22 = 0 ∨ x22 = 1) ∧ (Q (some (.int x22)) h21))))))))) : zX mX4_tellName 0 [.ref t] [] h Q := by
  obtain ⟨g1, H⟩ := H
  obtain ⟨a2, ea2, H⟩ := H
  obtain ⟨g3, H⟩ := H
  refine zX_seg (pc' := 8) (L' := [.ref t]) (st' := [.int (3 : Int32), .int (gI h a2 6)]) (h2 := h) rfl rfl (fun C Cr hc kk => x_aload_n C (v := .ref t) rfl rfl dX4_tellName_0 (f_getR1 C lX4_60 g1 rfl ea2 dX4_tellName_1 (f_getIN C lX4_136 g3 rfl dX4_tellName_4 (x_iconst C (3 : Int32) (by decide) dX4_tellName_7 (kk))))) ?_
  refine zX_br (p1 := 17) (p2 := 11) (st' := []) ((gI h a2 6) < (3 : Int32)) (fun C kt kf => x_icmp_lt C 17 dX4_tellName_8 (by decide) kt kf) (fun q4 => ?_) (fun q4 => ?_)
  · replace H := H.1 q4
    obtain ⟨a5, ea5, H⟩ := H
    refine zX_seg (pc' := 21) (L' := [.ref t]) (st' := [.ref a5]) (h2 := h) rfl rfl (fun C Cr hc kk => x_aload_n C (v := .ref t) rfl rfl dX4_tellName_17 (f_getR1 C lX4_12 g1 rfl ea5 dX4_tellName_18 (kk))) ?_
    obtain ⟨g6, H⟩ := H
    refine zX_call (as := [.ref a5]) (st := []) (fun C hM hc kk => f_callVN C [] hM kX8_advance vX8_advance lX4_133 ⟨by decide, by decide⟩ (rfl : vwCl[8]? = some (RX8, TX8, 11)) g6 rfl hc (Nat.le_of_ble_eq_true rfl) rfl dX4_tellName_21 kk) (zC.mono H ?_)
    rintro r0 h7 ⟨rfl, H⟩
    show zX mX4_tellName 24 [.ref t] [] h7 Q
    obtain ⟨g8, H⟩ := H
    obtain ⟨a9, ea9, H⟩ := H
    obtain ⟨g10, H⟩ := H
    obtain ⟨a11, ea11, H⟩ := H
    refine zX_seg (pc' := 39) (L' := [.ref t]) (st' := [.int (gI h7 a9 6), .ref a11, .ref t]) (h2 := h7) rfl rfl (fun C Cr hc kk => x_aload_n C (v := .ref t) rfl rfl dX4_tellName_24 (x_aload_n C (v := .ref t) rfl rfl dX4_tellName_25 (f_getR1 C lX4_60 g8 rfl ea9 dX4_tellName_26 (f_getR1N C lX4_139 g10 rfl ea11 dX4_tellName_29 (x_aload_n C (v := .ref t) rfl rfl dX4_tellName_32 (f_getR1 C lX4_60 g8 rfl ea9 dX4_tellName_33 (f_getIN C lX4_136 g10 rfl dX4_tellName_36 (kk)))))))) ?_
    refine zX_call (as := [.ref t, .ref a11, .int (gI h7 a9 6)]) (st := []) (fun C hM hc kk => f_callV C [.ref a11, .int (gI h7 a9 6)] hM kX4_takeNew vX4_takeNew lX4_143 ⟨by decide, by decide⟩ (rfl : vwCl[4]? = some (RX4, TX4, 14)) g8 rfl hc (Nat.le_of_ble_eq_true rfl) rfl dX4_tellName_39 kk) (zC.mono H ?_)
    rintro r0 h12 ⟨x13, rfl, H⟩
    show zX mX4_tellName 42 [.ref t] [.int x13] h12 Q
    refine zX_br (p1 := 45) (p2 := 47) (st' := []) (x13 = 0) (fun C kt kf => x_if_ne C 47 dX4_tellName_42 (by decide) kf kt) (fun q14 => ?_) (fun q14 => ?_)
    · replace H := H.1 q14
      refine zX_seg (pc' := 46) (L' := [.ref t]) (st' := [.int (0 : Int32)]) (h2 := h12) rfl rfl (fun C Cr hc kk => x_iconst C (0 : Int32) (by decide) dX4_tellName_45 (kk)) ?_
      exact zX_ret (some (.int (0 : Int32))) (fun C Cr hc => x_iret C Cr rfl rfl hc dX4_tellName_46 ⟨rfl, rfl⟩) H
    · replace H := H.2 q14
      obtain ⟨g15, H⟩ := H
      obtain ⟨a16, ea16, H⟩ := H
      obtain ⟨g17, H⟩ := H
      refine zX_seg (pc' := 60) (L' := [.ref t]) (st' := []) (h2 := (pF h12 a16 6 (.int ((gI h12 a16 6) + (1 : Int32))))) rfl rfl (fun C Cr hc kk => x_aload_n C (v := .ref t) rfl rfl dX4_tellName_47 (f_getR1 C lX4_60 g15 rfl ea16 dX4_tellName_48 (x_dup C rfl dX4_tellName_51 (f_getIN C lX4_136 g17 rfl dX4_tellName_52 (x_iconst C (1 : Int32) (by decide) dX4_tellName_55 (x_iadd C dX4_tellName_56 (f_putIN C lX4_136 tX10 nX10_6 g17 rfl rfl dX4_tellName_57 (kk)))))))) ?_
      obtain ⟨h18, eh18⟩ : ∃ y : zH, y = (pF h12 a16 6 (.int ((gI h12 a16 6) + (1 : Int32)))) := ⟨_, rfl⟩
      replace H := H h18 eh18
      rw [← eh18]
      have g19 : oK h18 t 4 := by rw [eh18]; exact oK_pF' g17 rfl rfl g15
      have g20 : oK h18 a16 10 := by rw [eh18]; exact oK_pF' g17 rfl rfl g17
      refine zX_seg (pc' := 61) (L' := [.ref t]) (st' := [.int (1 : Int32)]) (h2 := h18) rfl rfl (fun C Cr hc kk => x_iconst C (1 : Int32) (by decide) dX4_tellName_60 (kk)) ?_
      exact zX_ret (some (.int (1 : Int32))) (fun C Cr hc => x_iret C Cr rfl rfl hc dX4_tellName_61 ⟨rfl, rfl⟩) H
  · replace H := H.2 q4
    refine zX_seg (pc' := 13) (L' := [.ref t]) (st' := [.int (2 : Int32), .ref t]) (h2 := h) rfl rfl (fun C Cr hc kk => x_aload_n C (v := .ref t) rfl rfl dX4_tellName_11 (x_iconst C (2 : Int32) (by decide) dX4_tellName_12 (kk))) ?_
    refine zX_call (as := [.ref t, .int (2 : Int32)]) (st := []) (fun C hM hc kk => f_callV C [.int (2 : Int32)] hM kX4_fail vX4_fail lX4_75 ⟨by decide, by decide⟩ (rfl : vwCl[4]? = some (RX4, TX4, 14)) g1 rfl hc (Nat.le_of_ble_eq_true rfl) rfl dX4_tellName_13 kk) (zC.mono H ?_)
    rintro r0 h21 ⟨x22, rfl, H⟩
    show zX mX4_tellName 16 [.ref t] [.int x22] h21 Q
    obtain ⟨g23, H⟩ := H
    exact zX_ret (some (.int x22)) (fun C Cr hc => x_iret C Cr rfl (by rcases g23 with z | z <;> rw [z] <;> rfl) hc dX4_tellName_16 ⟨rfl, rfl⟩) H
theorem nX4_tellName (t : Nat) (h : zH) (Q : Option Value → zH → Prop) (H : zX mX4_tellName 0 [.ref t] [] h Q) : zC mX4_tellName [.ref t] h Q := zC_of (by decide +kernel) (by simp) (Nat.le_of_ble_eq_true rfl) H
set_option maxHeartbeats 20000000 in
theorem bX4_tellStreet_0 (t : Nat) (h : zH) (Q : Option Value → zH → Prop) (H : oK h t 4 ∧ (∃ a2 : Nat, gR h t 3 = some a2 ∧ (oK h a2 10 ∧ (((gI h a2 7) < (4 : Int32) → (∃ a5 : Nat, gR h t 0 = some a5 ∧ (oK h a5 8 ∧ (zC mX8_advance [.ref a5] h (fun r0 h7 => r0 = none ∧ (oK h7 t 4 ∧ (∃ a9 : Nat, gR h7 t 3 = some a9 ∧ (oK h7 a9 10 ∧ (∃ a11 : Nat, gR h7 a9 1 = some a11 ∧ (zC mX4_takeNew [.ref t, .ref a11, .int (gI h7 a9 7)] h7 (fun r0 h12 => ∃ x13 : Int32, r0 = some (.int x13) ∧ ((x13 = 0 → (Q (some (.int (0 : Int32))) h12)) ∧ (¬ (x13 = 0) → (oK h12 t 4 ∧ (∃ a16 : Nat, gR h12 t 3 = some a16 ∧ (oK h12 a16 10 ∧ (∀ h18 : zH, h18 = (pF h12 a16 7 (.int ((gI h12 a16 7) + (1 : Int32)))) → (Q (some (.int (1 : Int32))) h18)))))))))))))))))) ∧ (¬ ((gI h a2 7) < (4 : Int32)) → (zC mX4_fail [.ref t, .int (2 : Int32)] h (fun r0 h21 => ∃ x22 : Int32, r0 = some (.int x22) ∧ ((x22 = 0 ∨ x22 = 1) ∧ (Q (some (.int x22)) h21))))))))) : zX mX4_tellStreet 0 [.ref t] [] h Q := by
  obtain ⟨g1, H⟩ := H
  obtain ⟨a2, ea2, H⟩ := H
  obtain ⟨g3, H⟩ := H
  refine zX_seg (pc' := 8) (L' := [.ref t]) (st' := [.int (4 : Int32), .int (gI h a2 7)]) (h2 := h) rfl rfl (fun C Cr hc kk => x_aload_n C (v := .ref t) rfl rfl dX4_tellStreet_0 (f_getR1 C lX4_60 g1 rfl ea2 dX4_tellStreet_1 (f_getIN C lX4_147 g3 rfl dX4_tellStreet_4 (x_iconst C (4 : Int32) (by decide) dX4_tellStreet_7 (kk))))) ?_
  refine zX_br (p1 := 17) (p2 := 11) (st' := []) ((gI h a2 7) < (4 : Int32)) (fun C kt kf => x_icmp_lt C 17 dX4_tellStreet_8 (by decide) kt kf) (fun q4 => ?_) (fun q4 => ?_)
  · replace H := H.1 q4
    obtain ⟨a5, ea5, H⟩ := H
    refine zX_seg (pc' := 21) (L' := [.ref t]) (st' := [.ref a5]) (h2 := h) rfl rfl (fun C Cr hc kk => x_aload_n C (v := .ref t) rfl rfl dX4_tellStreet_17 (f_getR1 C lX4_12 g1 rfl ea5 dX4_tellStreet_18 (kk))) ?_
    obtain ⟨g6, H⟩ := H
    refine zX_call (as := [.ref a5]) (st := []) (fun C hM hc kk => f_callVN C [] hM kX8_advance vX8_advance lX4_133 ⟨by decide, by decide⟩ (rfl : vwCl[8]? = some (RX8, TX8, 11)) g6 rfl hc (Nat.le_of_ble_eq_true rfl) rfl dX4_tellStreet_21 kk) (zC.mono H ?_)
    rintro r0 h7 ⟨rfl, H⟩
    show zX mX4_tellStreet 24 [.ref t] [] h7 Q
    obtain ⟨g8, H⟩ := H
    obtain ⟨a9, ea9, H⟩ := H
    obtain ⟨g10, H⟩ := H
    obtain ⟨a11, ea11, H⟩ := H
    refine zX_seg (pc' := 39) (L' := [.ref t]) (st' := [.int (gI h7 a9 7), .ref a11, .ref t]) (h2 := h7) rfl rfl (fun C Cr hc kk => x_aload_n C (v := .ref t) rfl rfl dX4_tellStreet_24 (x_aload_n C (v := .ref t) rfl rfl dX4_tellStreet_25 (f_getR1 C lX4_60 g8 rfl ea9 dX4_tellStreet_26 (f_getR1N C lX4_150 g10 rfl ea11 dX4_tellStreet_29 (x_aload_n C (v := .ref t) rfl rfl dX4_tellStreet_32 (f_getR1 C lX4_60 g8 rfl ea9 dX4_tellStreet_33 (f_getIN C lX4_147 g10 rfl dX4_tellStreet_36 (kk)))))))) ?_
    refine zX_call (as := [.ref t, .ref a11, .int (gI h7 a9 7)]) (st := []) (fun C hM hc kk => f_callV C [.ref a11, .int (gI h7 a9 7)] hM kX4_takeNew vX4_takeNew lX4_143 ⟨by decide, by decide⟩ (rfl : vwCl[4]? = some (RX4, TX4, 14)) g8 rfl hc (Nat.le_of_ble_eq_true rfl) rfl dX4_tellStreet_39 kk) (zC.mono H ?_)
    rintro r0 h12 ⟨x13, rfl, H⟩
    show zX mX4_tellStreet 42 [.ref t] [.int x13] h12 Q
    refine zX_br (p1 := 45) (p2 := 47) (st' := []) (x13 = 0) (fun C kt kf => x_if_ne C 47 dX4_tellStreet_42 (by decide) kf kt) (fun q14 => ?_) (fun q14 => ?_)
    · replace H := H.1 q14
      refine zX_seg (pc' := 46) (L' := [.ref t]) (st' := [.int (0 : Int32)]) (h2 := h12) rfl rfl (fun C Cr hc kk => x_iconst C (0 : Int32) (by decide) dX4_tellStreet_45 (kk)) ?_
      exact zX_ret (some (.int (0 : Int32))) (fun C Cr hc => x_iret C Cr rfl rfl hc dX4_tellStreet_46 ⟨rfl, rfl⟩) H
    · replace H := H.2 q14
      obtain ⟨g15, H⟩ := H
      obtain ⟨a16, ea16, H⟩ := H
      obtain ⟨g17, H⟩ := H
      refine zX_seg (pc' := 60) (L' := [.ref t]) (st' := []) (h2 := (pF h12 a16 7 (.int ((gI h12 a16 7) + (1 : Int32))))) rfl rfl (fun C Cr hc kk => x_aload_n C (v := .ref t) rfl rfl dX4_tellStreet_47 (f_getR1 C lX4_60 g15 rfl ea16 dX4_tellStreet_48 (x_dup C rfl dX4_tellStreet_51 (f_getIN C lX4_147 g17 rfl dX4_tellStreet_52 (x_iconst C (1 : Int32) (by decide) dX4_tellStreet_55 (x_iadd C dX4_tellStreet_56 (f_putIN C lX4_147 tX10 nX10_7 g17 rfl rfl dX4_tellStreet_57 (kk)))))))) ?_
      obtain ⟨h18, eh18⟩ : ∃ y : zH, y = (pF h12 a16 7 (.int ((gI h12 a16 7) + (1 : Int32)))) := ⟨_, rfl⟩
      replace H := H h18 eh18
      rw [← eh18]
      have g19 : oK h18 t 4 := by rw [eh18]; exact oK_pF' g17 rfl rfl g15
      have g20 : oK h18 a16 10 := by rw [eh18]; exact oK_pF' g17 rfl rfl g17
      refine zX_seg (pc' := 61) (L' := [.ref t]) (st' := [.int (1 : Int32)]) (h2 := h18) rfl rfl (fun C Cr hc kk => x_iconst C (1 : Int32) (by decide) dX4_tellStreet_60 (kk)) ?_
      exact zX_ret (some (.int (1 : Int32))) (fun C Cr hc => x_iret C Cr rfl rfl hc dX4_tellStreet_61 ⟨rfl, rfl⟩) H
  · replace H := H.2 q4
    refine zX_seg (pc' := 13) (L' := [.ref t]) (st' := [.int (2 : Int32), .ref t]) (h2 := h) rfl rfl (fun C Cr hc kk => x_aload_n C (v := .ref t) rfl rfl dX4_tellStreet_11 (x_iconst C (2 : Int32) (by decide) dX4_tellStreet_12 (kk))) ?_
    refine zX_call (as := [.ref t, .int (2 : Int32)]) (st := []) (fun C hM hc kk => f_callV C [.int (2 : Int32)] hM kX4_fail vX4_fail lX4_75 ⟨by decide, by decide⟩ (rfl : vwCl[4]? = some (RX4, TX4, 14)) g1 rfl hc (Nat.le_of_ble_eq_true rfl) rfl dX4_tellStreet_13 kk) (zC.mono H ?_)
    rintro r0 h21 ⟨x22, rfl, H⟩
    show zX mX4_tellStreet 16 [.ref t] [.int x22] h21 Q
    obtain ⟨g23, H⟩ := H
    exact zX_ret (some (.int x22)) (fun C Cr hc => x_iret C Cr rfl (by rcases g23 with z | z <;> rw [z] <;> rfl) hc dX4_tellStreet_16 ⟨rfl, rfl⟩) H
theorem nX4_tellStreet (t : Nat) (h : zH) (Q : Option Value → zH → Prop) (H : zX mX4_tellStreet 0 [.ref t] [] h Q) : zC mX4_tellStreet [.ref t] h Q := zC_of (by decide +kernel) (by simp) (Nat.le_of_ble_eq_true rfl) H
set_option maxHeartbeats 20000000 in
theorem bX4_tellVoter_0 (t : Nat) (h : zH) (Q : Option Value → zH → Prop) (H : oK h t 4 ∧ (∃ a2 : Nat, gR h t 3 = some a2 ∧ (oK h a2 10 ∧ (((gI h a2 8) < (8 : Int32) → (∃ a5 : Nat, gR h t 0 = some a5 ∧ (oK h a5 8 ∧ (zC mX8_advance [.ref a5] h (fun r0 h7 => r0 = none ∧ (oK h7 t 4 ∧ (∃ a9 : Nat, gR h7 t 3 = some a9 ∧ (oK h7 a9 10 ∧ (∃ a11 : Nat, gR h7 a9 2 = some a11 ∧ (zC mX4_takeNew [.ref t, .ref a11, .int (gI h7 a9 8)] h7 (fun r0 h12 => ∃ x13 : Int32, r0 = some (.int x13) ∧ ((x13 = 0 → (Q (some (.int (0 : Int32))) h12)) ∧ (¬ (x13 = 0) → (oK h12 t 4 ∧ (zC mX4_take [.ref t, .int (3 : Int32)] h12 (fun r0 h16 => ∃ x17 : Int32, r0 = some (.int x17) ∧ ((x17 = 0 → (Q (some (.int (0 : Int32))) h16)) ∧ (¬ (x17 = 0) → (oK h16 t 4 ∧ (∃ a20 : Nat, gR h16 t 3 = some a20 ∧ (oK h16 a20 10 ∧ (∃ a22 : Nat, gR h16 a20 1 = some a22 ∧ (zC mX4_takeKnown [.ref t, .ref a22, .int (gI h16 a20 7), .int (0 : Int32)] h16 (fun r0 h23 => ∃ x24 : Int32, r0 = some (.int x24) ∧ ((x24 < 0 → (Q (some (.int (0 : Int32))) h23)) ∧ (¬ (x24 < 0) → (oK h23 t 4 ∧ (zC mX4_take [.ref t, .int (4 : Int32)] h23 (fun r0 h27 => ∃ x28 : Int32, r0 = some (.int x28) ∧ ((x28 = 0 → (Q (some (.int (0 : Int32))) h27)) ∧ (¬ (x28 = 0) → (oK h27 t 4 ∧ (∃ a31 : Nat, gR h27 t 0 = some a31 ∧ (oK h27 a31 8 ∧ (((gI h27 a31 8) = (21 : Int32) → ((((gL h27 a31 10).toInt32) < (1 : Int32) → (zC mX4_fail [.ref t, .int (4 : Int32)] h27 (fun r0 h35 => ∃ x36 : Int32, r0 = some (.int x36) ∧ ((x36 = 0 ∨ x36 = 1) ∧ (Q (some (.int x36)) h35))))) ∧ (¬ (((gL h27 a31 10).toInt32) < (1 : Int32)) → ((((gL h27 a31 10).toInt32) ≤ (9 : Int32) → (zX mX4_tellVoter 128 [.ref t, .int x24, .int ((gL h27 a31 10).toInt32)] [] h27 Q)) ∧ (¬ (((gL h27 a31 10).toInt32) ≤ (9 : Int32)) → (zC mX4_fail [.ref t, .int (4 : Int32)] h27 (fun r0 h39 => ∃ x40 : Int32, r0 = some (.int x40) ∧ ((x40 = 0 ∨ x40 = 1) ∧ (Q (some (.int x40)) h39))))))))) ∧ (¬ ((gI h27 a31 8) = (21 : Int32)) → (zX mX4_tellVoter 128 [.ref t, .int x24, .int ((gL h27 a31 10).toInt32)] [] h27 Q))))))))))))))))))))))))))))))))))))) ∧ (¬ ((gI h a2 8) < (8 : Int32)) → (zC mX4_fail [.ref t, .int (2 : Int32)] h (fun r0 h42 => ∃ x43 : Int32, r0 = some (.int x43) ∧ ((x43 = 0 ∨ x43 = 1) ∧ (Q (some (.int x43)) h42))))))))) : zX mX4_tellVoter 0 [.ref t, .float 0, .float 0] [] h Q := by
  obtain ⟨g1, H⟩ := H
  obtain ⟨a2, ea2, H⟩ := H
  obtain ⟨g3, H⟩ := H
  refine zX_seg (pc' := 9) (L' := [.ref t, .float 0, .float 0]) (st' := [.int (8 : Int32), .int (gI h a2 8)]) (h2 := h) rfl rfl (fun C Cr hc kk => x_aload_n C (v := .ref t) rfl rfl dX4_tellVoter_0 (f_getR1 C lX4_60 g1 rfl ea2 dX4_tellVoter_1 (f_getIN C lX4_153 g3 rfl dX4_tellVoter_4 (x_bipush C (8 : Int32) (by decide) dX4_tellVoter_7 (kk))))) ?_
  refine zX_br (p1 := 18) (p2 := 12) (st' := []) ((gI h a2 8) < (8 : Int32)) (fun C kt kf => x_icmp_lt C 18 dX4_tellVoter_9 (by decide) kt kf) (fun q4 => ?_) (fun q4 => ?_)
  · replace H := H.1 q4
    obtain ⟨a5, ea5, H⟩ := H
    refine zX_seg (pc' := 22) (L' := [.ref t, .float 0, .float 0]) (st' := [.ref a5]) (h2 := h) rfl rfl (fun C Cr hc kk => x_aload_n C (v := .ref t) rfl rfl dX4_tellVoter_18 (f_getR1 C lX4_12 g1 rfl ea5 dX4_tellVoter_19 (kk))) ?_
    obtain ⟨g6, H⟩ := H
    refine zX_call (as := [.ref a5]) (st := []) (fun C hM hc kk => f_callVN C [] hM kX8_advance vX8_advance lX4_133 ⟨by decide, by decide⟩ (rfl : vwCl[8]? = some (RX8, TX8, 11)) g6 rfl hc (Nat.le_of_ble_eq_true rfl) rfl dX4_tellVoter_22 kk) (zC.mono H ?_)
    rintro r0 h7 ⟨rfl, H⟩
    show zX mX4_tellVoter 25 [.ref t, .float 0, .float 0] [] h7 Q
    obtain ⟨g8, H⟩ := H
    obtain ⟨a9, ea9, H⟩ := H
    obtain ⟨g10, H⟩ := H
    obtain ⟨a11, ea11, H⟩ := H
    refine zX_seg (pc' := 40) (L' := [.ref t, .float 0, .float 0]) (st' := [.int (gI h7 a9 8), .ref a11, .ref t]) (h2 := h7) rfl rfl (fun C Cr hc kk => x_aload_n C (v := .ref t) rfl rfl dX4_tellVoter_25 (x_aload_n C (v := .ref t) rfl rfl dX4_tellVoter_26 (f_getR1 C lX4_60 g8 rfl ea9 dX4_tellVoter_27 (f_getR1N C lX4_156 g10 rfl ea11 dX4_tellVoter_30 (x_aload_n C (v := .ref t) rfl rfl dX4_tellVoter_33 (f_getR1 C lX4_60 g8 rfl ea9 dX4_tellVoter_34 (f_getIN C lX4_153 g10 rfl dX4_tellVoter_37 (kk)))))))) ?_
    refine zX_call (as := [.ref t, .ref a11, .int (gI h7 a9 8)]) (st := []) (fun C hM hc kk => f_callV C [.ref a11, .int (gI h7 a9 8)] hM kX4_takeNew vX4_takeNew lX4_143 ⟨by decide, by decide⟩ (rfl : vwCl[4]? = some (RX4, TX4, 14)) g8 rfl hc (Nat.le_of_ble_eq_true rfl) rfl dX4_tellVoter_40 kk) (zC.mono H ?_)
    rintro r0 h12 ⟨x13, rfl, H⟩
    show zX mX4_tellVoter 43 [.ref t, .float 0, .float 0] [.int x13] h12 Q
    refine zX_br (p1 := 54) (p2 := 46) (st' := []) (x13 = 0) (fun C kt kf => x_if_eq C 54 dX4_tellVoter_43 (by decide) kt kf) (fun q14 => ?_) (fun q14 => ?_)
    · replace H := H.1 q14
      refine zX_seg (pc' := 55) (L' := [.ref t, .float 0, .float 0]) (st' := [.int (0 : Int32)]) (h2 := h12) rfl rfl (fun C Cr hc kk => x_iconst C (0 : Int32) (by decide) dX4_tellVoter_54 (kk)) ?_
      exact zX_ret (some (.int (0 : Int32))) (fun C Cr hc => x_iret C Cr rfl rfl hc dX4_tellVoter_55 ⟨rfl, rfl⟩) H
    · replace H := H.2 q14
      refine zX_seg (pc' := 48) (L' := [.ref t, .float 0, .float 0]) (st' := [.int (3 : Int32), .ref t]) (h2 := h12) rfl rfl (fun C Cr hc kk => x_aload_n C (v := .ref t) rfl rfl dX4_tellVoter_46 (x_iconst C (3 : Int32) (by decide) dX4_tellVoter_47 (kk))) ?_
      obtain ⟨g15, H⟩ := H
      refine zX_call (as := [.ref t, .int (3 : Int32)]) (st := []) (fun C hM hc kk => f_callV C [.int (3 : Int32)] hM kX4_take vX4_take lX4_79 ⟨by decide, by decide⟩ (rfl : vwCl[4]? = some (RX4, TX4, 14)) g15 rfl hc (Nat.le_of_ble_eq_true rfl) rfl dX4_tellVoter_48 kk) (zC.mono H ?_)
      rintro r0 h16 ⟨x17, rfl, H⟩
      show zX mX4_tellVoter 51 [.ref t, .float 0, .float 0] [.int x17] h16 Q
      refine zX_br (p1 := 54) (p2 := 56) (st' := []) (x17 = 0) (fun C kt kf => x_if_ne C 56 dX4_tellVoter_51 (by decide) kf kt) (fun q18 => ?_) (fun q18 => ?_)
      · replace H := H.1 q18
        refine zX_seg (pc' := 55) (L' := [.ref t, .float 0, .float 0]) (st' := [.int (0 : Int32)]) (h2 := h16) rfl rfl (fun C Cr hc kk => x_iconst C (0 : Int32) (by decide) dX4_tellVoter_54 (kk)) ?_
        exact zX_ret (some (.int (0 : Int32))) (fun C Cr hc => x_iret C Cr rfl rfl hc dX4_tellVoter_55 ⟨rfl, rfl⟩) H
      · replace H := H.2 q18
        obtain ⟨g19, H⟩ := H
        obtain ⟨a20, ea20, H⟩ := H
        obtain ⟨g21, H⟩ := H
        obtain ⟨a22, ea22, H⟩ := H
        refine zX_seg (pc' := 72) (L' := [.ref t, .float 0, .float 0]) (st' := [.int (0 : Int32), .int (gI h16 a20 7), .ref a22, .ref t]) (h2 := h16) rfl rfl (fun C Cr hc kk => x_aload_n C (v := .ref t) rfl rfl dX4_tellVoter_56 (x_aload_n C (v := .ref t) rfl rfl dX4_tellVoter_57 (f_getR1 C lX4_60 g19 rfl ea20 dX4_tellVoter_58 (f_getR1N C lX4_150 g21 rfl ea22 dX4_tellVoter_61 (x_aload_n C (v := .ref t) rfl rfl dX4_tellVoter_64 (f_getR1 C lX4_60 g19 rfl ea20 dX4_tellVoter_65 (f_getIN C lX4_147 g21 rfl dX4_tellVoter_68 (x_iconst C (0 : Int32) (by decide) dX4_tellVoter_71 (kk))))))))) ?_
        refine zX_call (as := [.ref t, .ref a22, .int (gI h16 a20 7), .int (0 : Int32)]) (st := []) (fun C hM hc kk => f_callV C [.ref a22, .int (gI h16 a20 7), .int (0 : Int32)] hM kX4_takeKnown vX4_takeKnown lX4_159 ⟨by decide, by decide⟩ (rfl : vwCl[4]? = some (RX4, TX4, 14)) g19 rfl hc (Nat.le_of_ble_eq_true rfl) rfl dX4_tellVoter_72 kk) (zC.mono H ?_)
        rintro r0 h23 ⟨x24, rfl, H⟩
        show zX mX4_tellVoter 75 [.ref t, .float 0, .float 0] [.int x24] h23 Q
        refine zX_seg (pc' := 77) (L' := [.ref t, .int x24, .float 0]) (st' := [.int x24]) (h2 := h23) rfl rfl (fun C Cr hc kk => x_istore_n C (by decide) dX4_tellVoter_75 (x_iload_n C rfl dX4_tellVoter_76 (kk))) ?_
        refine zX_br (p1 := 88) (p2 := 80) (st' := []) (x24 < 0) (fun C kt kf => x_if_lt C 88 dX4_tellVoter_77 (by decide) kt kf) (fun q25 => ?_) (fun q25 => ?_)
        · replace H := H.1 q25
          refine zX_seg (pc' := 89) (L' := [.ref t, .int x24, .float 0]) (st' := [.int (0 : Int32)]) (h2 := h23) rfl rfl (fun C Cr hc kk => x_iconst C (0 : Int32) (by decide) dX4_tellVoter_88 (kk)) ?_
          exact zX_ret (some (.int (0 : Int32))) (fun C Cr hc => x_iret C Cr rfl rfl hc dX4_tellVoter_89 ⟨rfl, rfl⟩) H
        · replace H := H.2 q25
          refine zX_seg (pc' := 82) (L' := [.ref t, .int x24, .float 0]) (st' := [.int (4 : Int32), .ref t]) (h2 := h23) rfl rfl (fun C Cr hc kk => x_aload_n C (v := .ref t) rfl rfl dX4_tellVoter_80 (x_iconst C (4 : Int32) (by decide) dX4_tellVoter_81 (kk))) ?_
          obtain ⟨g26, H⟩ := H
          refine zX_call (as := [.ref t, .int (4 : Int32)]) (st := []) (fun C hM hc kk => f_callV C [.int (4 : Int32)] hM kX4_take vX4_take lX4_79 ⟨by decide, by decide⟩ (rfl : vwCl[4]? = some (RX4, TX4, 14)) g26 rfl hc (Nat.le_of_ble_eq_true rfl) rfl dX4_tellVoter_82 kk) (zC.mono H ?_)
          rintro r0 h27 ⟨x28, rfl, H⟩
          show zX mX4_tellVoter 85 [.ref t, .int x24, .float 0] [.int x28] h27 Q
          refine zX_br (p1 := 88) (p2 := 90) (st' := []) (x28 = 0) (fun C kt kf => x_if_ne C 90 dX4_tellVoter_85 (by decide) kf kt) (fun q29 => ?_) (fun q29 => ?_)
          · replace H := H.1 q29
            refine zX_seg (pc' := 89) (L' := [.ref t, .int x24, .float 0]) (st' := [.int (0 : Int32)]) (h2 := h27) rfl rfl (fun C Cr hc kk => x_iconst C (0 : Int32) (by decide) dX4_tellVoter_88 (kk)) ?_
            exact zX_ret (some (.int (0 : Int32))) (fun C Cr hc => x_iret C Cr rfl rfl hc dX4_tellVoter_89 ⟨rfl, rfl⟩) H
          · replace H := H.2 q29
            obtain ⟨g30, H⟩ := H
            obtain ⟨a31, ea31, H⟩ := H
            obtain ⟨g32, H⟩ := H
            refine zX_seg (pc' := 108) (L' := [.ref t, .int x24, .int ((gL h27 a31 10).toInt32)]) (st' := [.int (21 : Int32), .int (gI h27 a31 8)]) (h2 := h27) rfl rfl (fun C Cr hc kk => x_aload_n C (v := .ref t) rfl rfl dX4_tellVoter_90 (f_getR1 C lX4_12 g30 rfl ea31 dX4_tellVoter_91 (f_getLN C lX4_163 g32 rfl dX4_tellVoter_94 (x_l2i C dX4_tellVoter_97 (x_istore_n C (by decide) dX4_tellVoter_98 (x_aload_n C (v := .ref t) rfl rfl dX4_tellVoter_99 (f_getR1 C lX4_12 g30 rfl ea31 dX4_tellVoter_100 (f_getIN C lX4_41 g32 rfl dX4_tellVoter_103 (x_bipush C (21 : Int32) (by decide) dX4_tellVoter_106 (kk)))))))))) ?_
            refine zX_br (p1 := 111) (p2 := 128) (st' := []) ((gI h27 a31 8) = (21 : Int32)) (fun C kt kf => x_icmp_ne C 128 dX4_tellVoter_108 (by decide) kf kt) (fun q33 => ?_) (fun q33 => ?_)
            · replace H := H.1 q33
              refine zX_seg (pc' := 113) (L' := [.ref t, .int x24, .int ((gL h27 a31 10).toInt32)]) (st' := [.int (1 : Int32), .int ((gL h27 a31 10).toInt32)]) (h2 := h27) rfl rfl (fun C Cr hc kk => x_iload_n C rfl dX4_tellVoter_111 (x_iconst C (1 : Int32) (by decide) dX4_tellVoter_112 (kk))) ?_
              refine zX_br (p1 := 122) (p2 := 116) (st' := []) (((gL h27 a31 10).toInt32) < (1 : Int32)) (fun C kt kf => x_icmp_lt C 122 dX4_tellVoter_113 (by decide) kt kf) (fun q34 => ?_) (fun q34 => ?_)
              · replace H := H.1 q34
                refine zX_seg (pc' := 124) (L' := [.ref t, .int x24, .int ((gL h27 a31 10).toInt32)]) (st' := [.int (4 : Int32), .ref t]) (h2 := h27) rfl rfl (fun C Cr hc kk => x_aload_n C (v := .ref t) rfl rfl dX4_tellVoter_122 (x_iconst C (4 : Int32) (by decide) dX4_tellVoter_123 (kk))) ?_
                refine zX_call (as := [.ref t, .int (4 : Int32)]) (st := []) (fun C hM hc kk => f_callV C [.int (4 : Int32)] hM kX4_fail vX4_fail lX4_75 ⟨by decide, by decide⟩ (rfl : vwCl[4]? = some (RX4, TX4, 14)) g30 rfl hc (Nat.le_of_ble_eq_true rfl) rfl dX4_tellVoter_124 kk) (zC.mono H ?_)
                rintro r0 h35 ⟨x36, rfl, H⟩
                show zX mX4_tellVoter 127 [.ref t, .int x24, .int ((gL h27 a31 10).toInt32)] [.int x36] h35 Q
                obtain ⟨g37, H⟩ := H
                exact zX_ret (some (.int x36)) (fun C Cr hc => x_iret C Cr rfl (by rcases g37 with z | z <;> rw [z] <;> rfl) hc dX4_tellVoter_127 ⟨rfl, rfl⟩) H
              · replace H := H.2 q34
                refine zX_seg (pc' := 119) (L' := [.ref t, .int x24, .int ((gL h27 a31 10).toInt32)]) (st' := [.int (9 : Int32), .int ((gL h27 a31 10).toInt32)]) (h2 := h27) rfl rfl (fun C Cr hc kk => x_iload_n C rfl dX4_tellVoter_116 (x_bipush C (9 : Int32) (by decide) dX4_tellVoter_117 (kk))) ?_
                refine zX_br (p1 := 128) (p2 := 122) (st' := []) (((gL h27 a31 10).toInt32) ≤ (9 : Int32)) (fun C kt kf => x_icmp_le C 128 dX4_tellVoter_119 (by decide) kt kf) (fun q38 => ?_) (fun q38 => ?_)
                · replace H := H.1 q38
                  exact zX_wk (wkK (wkK (wkK wkN))) H
                · replace H := H.2 q38
                  refine zX_seg (pc' := 124) (L' := [.ref t, .int x24, .int ((gL h27 a31 10).toInt32)]) (st' := [.int (4 : Int32), .ref t]) (h2 := h27) rfl rfl (fun C Cr hc kk => x_aload_n C (v := .ref t) rfl rfl dX4_tellVoter_122 (x_iconst C (4 : Int32) (by decide) dX4_tellVoter_123 (kk))) ?_
                  refine zX_call (as := [.ref t, .int (4 : Int32)]) (st := []) (fun C hM hc kk => f_callV C [.int (4 : Int32)] hM kX4_fail vX4_fail lX4_75 ⟨by decide, by decide⟩ (rfl : vwCl[4]? = some (RX4, TX4, 14)) g30 rfl hc (Nat.le_of_ble_eq_true rfl) rfl dX4_tellVoter_124 kk) (zC.mono H ?_)
                  rintro r0 h39 ⟨x40, rfl, H⟩
                  show zX mX4_tellVoter 127 [.ref t, .int x24, .int ((gL h27 a31 10).toInt32)] [.int x40] h39 Q
                  obtain ⟨g41, H⟩ := H
                  exact zX_ret (some (.int x40)) (fun C Cr hc => x_iret C Cr rfl (by rcases g41 with z | z <;> rw [z] <;> rfl) hc dX4_tellVoter_127 ⟨rfl, rfl⟩) H
            · replace H := H.2 q33
              exact zX_wk (wkK (wkK (wkK wkN))) H
  · replace H := H.2 q4
    refine zX_seg (pc' := 14) (L' := [.ref t, .float 0, .float 0]) (st' := [.int (2 : Int32), .ref t]) (h2 := h) rfl rfl (fun C Cr hc kk => x_aload_n C (v := .ref t) rfl rfl dX4_tellVoter_12 (x_iconst C (2 : Int32) (by decide) dX4_tellVoter_13 (kk))) ?_
    refine zX_call (as := [.ref t, .int (2 : Int32)]) (st := []) (fun C hM hc kk => f_callV C [.int (2 : Int32)] hM kX4_fail vX4_fail lX4_75 ⟨by decide, by decide⟩ (rfl : vwCl[4]? = some (RX4, TX4, 14)) g1 rfl hc (Nat.le_of_ble_eq_true rfl) rfl dX4_tellVoter_14 kk) (zC.mono H ?_)
    rintro r0 h42 ⟨x43, rfl, H⟩
    show zX mX4_tellVoter 17 [.ref t, .float 0, .float 0] [.int x43] h42 Q
    obtain ⟨g44, H⟩ := H
    exact zX_ret (some (.int x43)) (fun C Cr hc => x_iret C Cr rfl (by rcases g44 with z | z <;> rw [z] <;> rfl) hc dX4_tellVoter_17 ⟨rfl, rfl⟩) H
set_option maxHeartbeats 20000000 in
theorem bX4_tellVoter_128 (l0 : Nat) (l1 : Int32) (l2 : Int32) (h : zH) (Q : Option Value → zH → Prop) (H : oK h l0 4 ∧ (zC mX4_take [.ref l0, .int (21 : Int32)] h (fun r0 h2 => ∃ x3 : Int32, r0 = some (.int x3) ∧ ((x3 = 0 → (Q (some (.int (0 : Int32))) h2)) ∧ (¬ (x3 = 0) → (oK h2 l0 4 ∧ (∃ a6 : Nat, gR h2 l0 3 = some a6 ∧ (oK h2 a6 10 ∧ (zC mX10_addVoter [.ref a6, .int l1, .int l2] h2 (fun r0 h8 => r0 = none ∧ (Q (some (.int (1 : Int32))) h8))))))))))) : zX mX4_tellVoter 128 [.ref l0, .int l1, .int l2] [] h Q := by
  refine zX_seg (pc' := 131) (L' := [.ref l0, .int l1, .int l2]) (st' := [.int (21 : Int32), .ref l0]) (h2 := h) rfl rfl (fun C Cr hc kk => x_aload_n C (v := .ref l0) rfl rfl dX4_tellVoter_128 (x_bipush C (21 : Int32) (by decide) dX4_tellVoter_129 (kk))) ?_
  obtain ⟨g1, H⟩ := H
  refine zX_call (as := [.ref l0, .int (21 : Int32)]) (st := []) (fun C hM hc kk => f_callV C [.int (21 : Int32)] hM kX4_take vX4_take lX4_79 ⟨by decide, by decide⟩ (rfl : vwCl[4]? = some (RX4, TX4, 14)) g1 rfl hc (Nat.le_of_ble_eq_true rfl) rfl dX4_tellVoter_131 kk) (zC.mono H ?_)
  rintro r0 h2 ⟨x3, rfl, H⟩
  show zX mX4_tellVoter 134 [.ref l0, .int l1, .int l2] [.int x3] h2 Q
  refine zX_br (p1 := 137) (p2 := 139) (st' := []) (x3 = 0) (fun C kt kf => x_if_ne C 139 dX4_tellVoter_134 (by decide) kf kt) (fun q4 => ?_) (fun q4 => ?_)
  · replace H := H.1 q4
    refine zX_seg (pc' := 138) (L' := [.ref l0, .int l1, .int l2]) (st' := [.int (0 : Int32)]) (h2 := h2) rfl rfl (fun C Cr hc kk => x_iconst C (0 : Int32) (by decide) dX4_tellVoter_137 (kk)) ?_
    exact zX_ret (some (.int (0 : Int32))) (fun C Cr hc => x_iret C Cr rfl rfl hc dX4_tellVoter_138 ⟨rfl, rfl⟩) H
  · replace H := H.2 q4
    obtain ⟨g5, H⟩ := H
    obtain ⟨a6, ea6, H⟩ := H
    refine zX_seg (pc' := 145) (L' := [.ref l0, .int l1, .int l2]) (st' := [.int l2, .int l1, .ref a6]) (h2 := h2) rfl rfl (fun C Cr hc kk => x_aload_n C (v := .ref l0) rfl rfl dX4_tellVoter_139 (f_getR1 C lX4_60 g5 rfl ea6 dX4_tellVoter_140 (x_iload_n C rfl dX4_tellVoter_143 (x_iload_n C rfl dX4_tellVoter_144 (kk))))) ?_
    obtain ⟨g7, H⟩ := H
    refine zX_call (as := [.ref a6, .int l1, .int l2]) (st := []) (fun C hM hc kk => f_callVN C [.int l1, .int l2] hM kX10_addVoter vX10_addVoter lX4_167 ⟨by decide, by decide⟩ (rfl : vwCl[10]? = some (RX10, TX10, 10)) g7 rfl hc (Nat.le_of_ble_eq_true rfl) rfl dX4_tellVoter_145 kk) (zC.mono H ?_)
    rintro r0 h8 ⟨rfl, H⟩
    show zX mX4_tellVoter 148 [.ref l0, .int l1, .int l2] [] h8 Q
    refine zX_seg (pc' := 149) (L' := [.ref l0, .int l1, .int l2]) (st' := [.int (1 : Int32)]) (h2 := h8) rfl rfl (fun C Cr hc kk => x_iconst C (1 : Int32) (by decide) dX4_tellVoter_148 (kk)) ?_
    exact zX_ret (some (.int (1 : Int32))) (fun C Cr hc => x_iret C Cr rfl rfl hc dX4_tellVoter_149 ⟨rfl, rfl⟩) H
theorem nX4_tellVoter (t : Nat) (h : zH) (Q : Option Value → zH → Prop) (H : zX mX4_tellVoter 0 [.ref t, .float 0, .float 0] [] h Q) : zC mX4_tellVoter [.ref t] h Q := zC_of (by decide +kernel) (by simp) (Nat.le_of_ble_eq_true rfl) H
set_option maxHeartbeats 20000000 in
theorem bX4_tellWhoseBallot_0 (t : Nat) (h : zH) (Q : Option Value → zH → Prop) (H : oK h t 4 ∧ (∃ a2 : Nat, gR h t 0 = some a2 ∧ (oK h a2 8 ∧ (zC mX8_advance [.ref a2] h (fun r0 h4 => r0 = none ∧ (oK h4 t 4 ∧ (∃ a6 : Nat, gR h4 t 3 = some a6 ∧ (oK h4 a6 10 ∧ (∃ a8 : Nat, gR h4 a6 2 = some a8 ∧ (zC mX4_takeKnown [.ref t, .ref a8, .int (gI h4 a6 8), .int (gI h4 a6 9)] h4 (fun r0 h9 => ∃ x10 : Int32, r0 = some (.int x10) ∧ ((0 ≤ x10 → (oK h9 t 4 ∧ (zC mX4_beginBallot [.ref t, .int x10] h9 (fun r0 h13 => r0 = none ∧ (Q (some (.int (1 : Int32))) h13))))) ∧ (¬ (0 ≤ x10) → (Q (some (.int (0 : Int32))) h9)))))))))))))) : zX mX4_tellWhoseBallot 0 [.ref t, .float 0] [] h Q := by
  obtain ⟨g1, H⟩ := H
  obtain ⟨a2, ea2, H⟩ := H
  refine zX_seg (pc' := 4) (L' := [.ref t, .float 0]) (st' := [.ref a2]) (h2 := h) rfl rfl (fun C Cr hc kk => x_aload_n C (v := .ref t) rfl rfl dX4_tellWhoseBallot_0 (f_getR1 C lX4_12 g1 rfl ea2 dX4_tellWhoseBallot_1 (kk))) ?_
  obtain ⟨g3, H⟩ := H
  refine zX_call (as := [.ref a2]) (st := []) (fun C hM hc kk => f_callVN C [] hM kX8_advance vX8_advance lX4_133 ⟨by decide, by decide⟩ (rfl : vwCl[8]? = some (RX8, TX8, 11)) g3 rfl hc (Nat.le_of_ble_eq_true rfl) rfl dX4_tellWhoseBallot_4 kk) (zC.mono H ?_)
  rintro r0 h4 ⟨rfl, H⟩
  show zX mX4_tellWhoseBallot 7 [.ref t, .float 0] [] h4 Q
  obtain ⟨g5, H⟩ := H
  obtain ⟨a6, ea6, H⟩ := H
  obtain ⟨g7, H⟩ := H
  obtain ⟨a8, ea8, H⟩ := H
  refine zX_seg (pc' := 29) (L' := [.ref t, .float 0]) (st' := [.int (gI h4 a6 9), .int (gI h4 a6 8), .ref a8, .ref t]) (h2 := h4) rfl rfl (fun C Cr hc kk => x_aload_n C (v := .ref t) rfl rfl dX4_tellWhoseBallot_7 (x_aload_n C (v := .ref t) rfl rfl dX4_tellWhoseBallot_8 (f_getR1 C lX4_60 g5 rfl ea6 dX4_tellWhoseBallot_9 (f_getR1N C lX4_156 g7 rfl ea8 dX4_tellWhoseBallot_12 (x_aload_n C (v := .ref t) rfl rfl dX4_tellWhoseBallot_15 (f_getR1 C lX4_60 g5 rfl ea6 dX4_tellWhoseBallot_16 (f_getIN C lX4_153 g7 rfl dX4_tellWhoseBallot_19 (x_aload_n C (v := .ref t) rfl rfl dX4_tellWhoseBallot_22 (f_getR1 C lX4_60 g5 rfl ea6 dX4_tellWhoseBallot_23 (f_getIN C lX4_171 g7 rfl dX4_tellWhoseBallot_26 (kk))))))))))) ?_
  refine zX_call (as := [.ref t, .ref a8, .int (gI h4 a6 8), .int (gI h4 a6 9)]) (st := []) (fun C hM hc kk => f_callV C [.ref a8, .int (gI h4 a6 8), .int (gI h4 a6 9)] hM kX4_takeKnown vX4_takeKnown lX4_159 ⟨by decide, by decide⟩ (rfl : vwCl[4]? = some (RX4, TX4, 14)) g5 rfl hc (Nat.le_of_ble_eq_true rfl) rfl dX4_tellWhoseBallot_29 kk) (zC.mono H ?_)
  rintro r0 h9 ⟨x10, rfl, H⟩
  show zX mX4_tellWhoseBallot 32 [.ref t, .float 0] [.int x10] h9 Q
  refine zX_seg (pc' := 34) (L' := [.ref t, .int x10]) (st' := [.int x10]) (h2 := h9) rfl rfl (fun C Cr hc kk => x_istore_n C (by decide) dX4_tellWhoseBallot_32 (x_iload_n C rfl dX4_tellWhoseBallot_33 (kk))) ?_
  refine zX_br (p1 := 39) (p2 := 37) (st' := []) (0 ≤ x10) (fun C kt kf => x_if_ge C 39 dX4_tellWhoseBallot_34 (by decide) kt kf) (fun q11 => ?_) (fun q11 => ?_)
  · replace H := H.1 q11
    refine zX_seg (pc' := 41) (L' := [.ref t, .int x10]) (st' := [.int x10, .ref t]) (h2 := h9) rfl rfl (fun C Cr hc kk => x_aload_n C (v := .ref t) rfl rfl dX4_tellWhoseBallot_39 (x_iload_n C rfl dX4_tellWhoseBallot_40 (kk))) ?_
    obtain ⟨g12, H⟩ := H
    refine zX_call (as := [.ref t, .int x10]) (st := []) (fun C hM hc kk => f_callV C [.int x10] hM kX4_beginBallot vX4_beginBallot lX4_82 ⟨by decide, by decide⟩ (rfl : vwCl[4]? = some (RX4, TX4, 14)) g12 rfl hc (Nat.le_of_ble_eq_true rfl) rfl dX4_tellWhoseBallot_41 kk) (zC.mono H ?_)
    rintro r0 h13 ⟨rfl, H⟩
    show zX mX4_tellWhoseBallot 44 [.ref t, .int x10] [] h13 Q
    refine zX_seg (pc' := 45) (L' := [.ref t, .int x10]) (st' := [.int (1 : Int32)]) (h2 := h13) rfl rfl (fun C Cr hc kk => x_iconst C (1 : Int32) (by decide) dX4_tellWhoseBallot_44 (kk)) ?_
    exact zX_ret (some (.int (1 : Int32))) (fun C Cr hc => x_iret C Cr rfl rfl hc dX4_tellWhoseBallot_45 ⟨rfl, rfl⟩) H
  · replace H := H.2 q11
    refine zX_seg (pc' := 38) (L' := [.ref t, .int x10]) (st' := [.int (0 : Int32)]) (h2 := h9) rfl rfl (fun C Cr hc kk => x_iconst C (0 : Int32) (by decide) dX4_tellWhoseBallot_37 (kk)) ?_
    exact zX_ret (some (.int (0 : Int32))) (fun C Cr hc => x_iret C Cr rfl rfl hc dX4_tellWhoseBallot_38 ⟨rfl, rfl⟩) H
theorem nX4_tellWhoseBallot (t : Nat) (h : zH) (Q : Option Value → zH → Prop) (H : zX mX4_tellWhoseBallot 0 [.ref t, .float 0] [] h Q) : zC mX4_tellWhoseBallot [.ref t] h Q := zC_of (by decide +kernel) (by simp) (Nat.le_of_ble_eq_true rfl) H
set_option maxHeartbeats 20000000 in
theorem bX4_takeNew_0 (t : Nat) (p0 : Nat) (p1 : Int32) (h : zH) (Q : Option Value → zH → Prop) (H : oK h t 4 ∧ (∃ a2 : Nat, gR h t 0 = some a2 ∧ (oK h a2 8 ∧ (((gI h a2 8) = (20 : Int32) → ((p1 < 0 → (zC mX4_fail [.ref t, .int (2 : Int32)] h (fun r0 h6 => ∃ x7 : Int32, r0 = some (.int x7) ∧ ((x7 = 0 ∨ x7 = 1) ∧ (Q (some (.int x7)) h6))))) ∧ (¬ (p1 < 0) → (lK h p0 ∧ ((p1 < (nI (aN h p0)) → (zX mX4_takeNew 30 [.ref t, .ref p0, .int p1, .int (0 : Int32)] [] h Q)) ∧ (¬ (p1 < (nI (aN h p0))) → (zC mX4_fail [.ref t, .int (2 : Int32)] h (fun r0 h11 => ∃ x12 : Int32, r0 = some (.int x12) ∧ ((x12 = 0 ∨ x12 = 1) ∧ (Q (some (.int x12)) h11)))))))))) ∧ (¬ ((gI h a2 8) = (20 : Int32)) → (zC mX4_fail [.ref t, .int (2 : Int32)] h (fun r0 h14 => ∃ x15 : Int32, r0 = some (.int x15) ∧ ((x15 = 0 ∨ x15 = 1) ∧ (Q (some (.int x15)) h14))))))))) : zX mX4_takeNew 0 [.ref t, .ref p0, .int p1, .float 0] [] h Q := by
  obtain ⟨g1, H⟩ := H
  obtain ⟨a2, ea2, H⟩ := H
  obtain ⟨g3, H⟩ := H
  refine zX_seg (pc' := 9) (L' := [.ref t, .ref p0, .int p1, .float 0]) (st' := [.int (20 : Int32), .int (gI h a2 8)]) (h2 := h) rfl rfl (fun C Cr hc kk => x_aload_n C (v := .ref t) rfl rfl dX4_takeNew_0 (f_getR1 C lX4_12 g1 rfl ea2 dX4_takeNew_1 (f_getIN C lX4_41 g3 rfl dX4_takeNew_4 (x_bipush C (20 : Int32) (by decide) dX4_takeNew_7 (kk))))) ?_
  refine zX_br (p1 := 12) (p2 := 22) (st' := []) ((gI h a2 8) = (20 : Int32)) (fun C kt kf => x_icmp_ne C 22 dX4_takeNew_9 (by decide) kf kt) (fun q4 => ?_) (fun q4 => ?_)
  · replace H := H.1 q4
    refine zX_seg (pc' := 13) (L' := [.ref t, .ref p0, .int p1, .float 0]) (st' := [.int p1]) (h2 := h) rfl rfl (fun C Cr hc kk => x_iload_n C rfl dX4_takeNew_12 (kk)) ?_
    refine zX_br (p1 := 22) (p2 := 16) (st' := []) (p1 < 0) (fun C kt kf => x_if_lt C 22 dX4_takeNew_13 (by decide) kt kf) (fun q5 => ?_) (fun q5 => ?_)
    · replace H := H.1 q5
      refine zX_seg (pc' := 24) (L' := [.ref t, .ref p0, .int p1, .float 0]) (st' := [.int (2 : Int32), .ref t]) (h2 := h) rfl rfl (fun C Cr hc kk => x_aload_n C (v := .ref t) rfl rfl dX4_takeNew_22 (x_iconst C (2 : Int32) (by decide) dX4_takeNew_23 (kk))) ?_
      refine zX_call (as := [.ref t, .int (2 : Int32)]) (st := []) (fun C hM hc kk => f_callV C [.int (2 : Int32)] hM kX4_fail vX4_fail lX4_75 ⟨by decide, by decide⟩ (rfl : vwCl[4]? = some (RX4, TX4, 14)) g1 rfl hc (Nat.le_of_ble_eq_true rfl) rfl dX4_takeNew_24 kk) (zC.mono H ?_)
      rintro r0 h6 ⟨x7, rfl, H⟩
      show zX mX4_takeNew 27 [.ref t, .ref p0, .int p1, .float 0] [.int x7] h6 Q
      obtain ⟨g8, H⟩ := H
      exact zX_ret (some (.int x7)) (fun C Cr hc => x_iret C Cr rfl (by rcases g8 with z | z <;> rw [z] <;> rfl) hc dX4_takeNew_27 ⟨rfl, rfl⟩) H
    · replace H := H.2 q5
      obtain ⟨g9, H⟩ := H
      refine zX_seg (pc' := 19) (L' := [.ref t, .ref p0, .int p1, .float 0]) (st' := [.int (nI (aN h p0)), .int p1]) (h2 := h) rfl rfl (fun C Cr hc kk => x_iload_n C rfl dX4_takeNew_16 (x_aload_n C (v := .ref p0) rfl rfl dX4_takeNew_17 (f_alenL C g9 dX4_takeNew_18 (kk)))) ?_
      refine zX_br (p1 := 28) (p2 := 22) (st' := []) (p1 < (nI (aN h p0))) (fun C kt kf => x_icmp_lt C 28 dX4_takeNew_19 (by decide) kt kf) (fun q10 => ?_) (fun q10 => ?_)
      · replace H := H.1 q10
        refine zX_seg (pc' := 30) (L' := [.ref t, .ref p0, .int p1, .int (0 : Int32)]) (st' := []) (h2 := h) rfl rfl (fun C Cr hc kk => x_iconst C (0 : Int32) (by decide) dX4_takeNew_28 (x_istore_n C (by decide) dX4_takeNew_29 (kk))) ?_
        exact zX_wk (wkK (wkK (wkK (wkK wkN)))) H
      · replace H := H.2 q10
        refine zX_seg (pc' := 24) (L' := [.ref t, .ref p0, .int p1, .float 0]) (st' := [.int (2 : Int32), .ref t]) (h2 := h) rfl rfl (fun C Cr hc kk => x_aload_n C (v := .ref t) rfl rfl dX4_takeNew_22 (x_iconst C (2 : Int32) (by decide) dX4_takeNew_23 (kk))) ?_
        refine zX_call (as := [.ref t, .int (2 : Int32)]) (st := []) (fun C hM hc kk => f_callV C [.int (2 : Int32)] hM kX4_fail vX4_fail lX4_75 ⟨by decide, by decide⟩ (rfl : vwCl[4]? = some (RX4, TX4, 14)) g1 rfl hc (Nat.le_of_ble_eq_true rfl) rfl dX4_takeNew_24 kk) (zC.mono H ?_)
        rintro r0 h11 ⟨x12, rfl, H⟩
        show zX mX4_takeNew 27 [.ref t, .ref p0, .int p1, .float 0] [.int x12] h11 Q
        obtain ⟨g13, H⟩ := H
        exact zX_ret (some (.int x12)) (fun C Cr hc => x_iret C Cr rfl (by rcases g13 with z | z <;> rw [z] <;> rfl) hc dX4_takeNew_27 ⟨rfl, rfl⟩) H
  · replace H := H.2 q4
    refine zX_seg (pc' := 24) (L' := [.ref t, .ref p0, .int p1, .float 0]) (st' := [.int (2 : Int32), .ref t]) (h2 := h) rfl rfl (fun C Cr hc kk => x_aload_n C (v := .ref t) rfl rfl dX4_takeNew_22 (x_iconst C (2 : Int32) (by decide) dX4_takeNew_23 (kk))) ?_
    refine zX_call (as := [.ref t, .int (2 : Int32)]) (st := []) (fun C hM hc kk => f_callV C [.int (2 : Int32)] hM kX4_fail vX4_fail lX4_75 ⟨by decide, by decide⟩ (rfl : vwCl[4]? = some (RX4, TX4, 14)) g1 rfl hc (Nat.le_of_ble_eq_true rfl) rfl dX4_takeNew_24 kk) (zC.mono H ?_)
    rintro r0 h14 ⟨x15, rfl, H⟩
    show zX mX4_takeNew 27 [.ref t, .ref p0, .int p1, .float 0] [.int x15] h14 Q
    obtain ⟨g16, H⟩ := H
    exact zX_ret (some (.int x15)) (fun C Cr hc => x_iret C Cr rfl (by rcases g16 with z | z <;> rw [z] <;> rfl) hc dX4_takeNew_27 ⟨rfl, rfl⟩) H
set_option maxHeartbeats 20000000 in
theorem bX4_takeNew_30 (l0 : Nat) (l1 : Nat) (l2 : Int32) (l3 : Int32) (h : zH) (Q : Option Value → zH → Prop) (H : (l2 ≤ l3 → (oK h l0 4 ∧ (∃ a3 : Nat, gR h l0 0 = some a3 ∧ (oK h a3 8 ∧ (lK h l1 ∧ (vp_in l2 (aN h l1) ∧ (∀ h7 : zH, h7 = (pL h l1 l2.toNatClampNeg (gL h a3 10)) → (∃ a11 : Nat, gR h7 l0 0 = some a11 ∧ (oK h7 a11 8 ∧ (zC mX8_advance [.ref a11] h7 (fun r0 h13 => r0 = none ∧ (Q (some (.int (1 : Int32))) h13)))))))))))) ∧ (¬ (l2 ≤ l3) → (lK h l1 ∧ (vp_in l3 (aN h l1) ∧ (oK h l0 4 ∧ (∃ a17 : Nat, gR h l0 0 = some a17 ∧ (oK h a17 8 ∧ (((lg_cmp (aL h l1 l3.toNatClampNeg) (gL h a17 10)) = 0 → (zC mX4_fail [.ref l0, .int (3 : Int32)] h (fun r0 h20 => ∃ x21 : Int32, r0 = some (.int x21) ∧ ((x21 = 0 ∨ x21 = 1) ∧ (Q (some (.int x21)) h20))))) ∧ (¬ ((lg_cmp (aL h l1 l3.toNatClampNeg) (gL h a17 10)) = 0) → (zX mX4_takeNew 30 [.ref l0, .ref l1, .int l2, .int (l3 + 1)] [] h Q)))))))))) : zX mX4_takeNew 30 [.ref l0, .ref l1, .int l2, .int l3] [] h Q := by
  refine zX_seg (pc' := 32) (L' := [.ref l0, .ref l1, .int l2, .int l3]) (st' := [.int l2, .int l3]) (h2 := h) rfl rfl (fun C Cr hc kk => x_iload_n C rfl dX4_takeNew_30 (x_iload_n C rfl dX4_takeNew_31 (kk))) ?_
  refine zX_br (p1 := 61) (p2 := 35) (st' := []) (l2 ≤ l3) (fun C kt kf => x_icmp_ge C 61 dX4_takeNew_32 (by decide) kt kf) (fun q1 => ?_) (fun q1 => ?_)
  · replace H := H.1 q1
    obtain ⟨g2, H⟩ := H
    obtain ⟨a3, ea3, H⟩ := H
    obtain ⟨g4, H⟩ := H
    obtain ⟨g6, H⟩ := H
    obtain ⟨g5, H⟩ := H
    refine zX_seg (pc' := 71) (L' := [.ref l0, .ref l1, .int l2, .int l3]) (st' := []) (h2 := (pL h l1 l2.toNatClampNeg (gL h a3 10))) rfl rfl (fun C Cr hc kk => x_aload_n C (v := .ref l1) rfl rfl dX4_takeNew_61 (x_iload_n C rfl dX4_takeNew_62 (x_aload_n C (v := .ref l0) rfl rfl dX4_takeNew_63 (f_getR1 C lX4_12 g2 rfl ea3 dX4_takeNew_64 (f_getLN C lX4_163 g4 rfl dX4_takeNew_67 (f_last C g6 g5 dX4_takeNew_70 (kk))))))) ?_
    obtain ⟨h7, eh7⟩ : ∃ y : zH, y = (pL h l1 l2.toNatClampNeg (gL h a3 10)) := ⟨_, rfl⟩
    replace H := H h7 eh7
    rw [← eh7]
    have g8 : oK h7 l0 4 := by rw [eh7]; exact oK_pL g2
    have g9 : oK h7 a3 8 := by rw [eh7]; exact oK_pL g4
    have g10 : lK h7 l1 := by rw [eh7]; exact lK_pL g6
    obtain ⟨a11, ea11, H⟩ := H
    refine zX_seg (pc' := 75) (L' := [.ref l0, .ref l1, .int l2, .int l3]) (st' := [.ref a11]) (h2 := h7) rfl rfl (fun C Cr hc kk => x_aload_n C (v := .ref l0) rfl rfl dX4_takeNew_71 (f_getR1 C lX4_12 g8 rfl ea11 dX4_takeNew_72 (kk))) ?_
    obtain ⟨g12, H⟩ := H
    refine zX_call (as := [.ref a11]) (st := []) (fun C hM hc kk => f_callVN C [] hM kX8_advance vX8_advance lX4_133 ⟨by decide, by decide⟩ (rfl : vwCl[8]? = some (RX8, TX8, 11)) g12 rfl hc (Nat.le_of_ble_eq_true rfl) rfl dX4_takeNew_75 kk) (zC.mono H ?_)
    rintro r0 h13 ⟨rfl, H⟩
    show zX mX4_takeNew 78 [.ref l0, .ref l1, .int l2, .int l3] [] h13 Q
    refine zX_seg (pc' := 79) (L' := [.ref l0, .ref l1, .int l2, .int l3]) (st' := [.int (1 : Int32)]) (h2 := h13) rfl rfl (fun C Cr hc kk => x_iconst C (1 : Int32) (by decide) dX4_takeNew_78 (kk)) ?_
    exact zX_ret (some (.int (1 : Int32))) (fun C Cr hc => x_iret C Cr rfl rfl hc dX4_takeNew_79 ⟨rfl, rfl⟩) H
  · replace H := H.2 q1
    obtain ⟨g15, H⟩ := H
    obtain ⟨g14, H⟩ := H
    obtain ⟨g16, H⟩ := H
    obtain ⟨a17, ea17, H⟩ := H
    obtain ⟨g18, H⟩ := H
    refine zX_seg (pc' := 46) (L' := [.ref l0, .ref l1, .int l2, .int l3]) (st' := [.int (lg_cmp (aL h l1 l3.toNatClampNeg) (gL h a17 10))]) (h2 := h) rfl rfl (fun C Cr hc kk => x_aload_n C (v := .ref l1) rfl rfl dX4_takeNew_35 (x_iload_n C rfl dX4_takeNew_36 (f_lald C g15 g14 dX4_takeNew_37 (x_aload_n C (v := .ref l0) rfl rfl dX4_takeNew_38 (f_getR1 C lX4_12 g16 rfl ea17 dX4_takeNew_39 (f_getLN C lX4_163 g18 rfl dX4_takeNew_42 (x_lcmp C dX4_takeNew_45 (kk)))))))) ?_
    refine zX_br (p1 := 49) (p2 := 55) (st' := []) ((lg_cmp (aL h l1 l3.toNatClampNeg) (gL h a17 10)) = 0) (fun C kt kf => x_if_ne C 55 dX4_takeNew_46 (by decide) kf kt) (fun q19 => ?_) (fun q19 => ?_)
    · replace H := H.1 q19
      refine zX_seg (pc' := 51) (L' := [.ref l0, .ref l1, .int l2, .int l3]) (st' := [.int (3 : Int32), .ref l0]) (h2 := h) rfl rfl (fun C Cr hc kk => x_aload_n C (v := .ref l0) rfl rfl dX4_takeNew_49 (x_iconst C (3 : Int32) (by decide) dX4_takeNew_50 (kk))) ?_
      refine zX_call (as := [.ref l0, .int (3 : Int32)]) (st := []) (fun C hM hc kk => f_callV C [.int (3 : Int32)] hM kX4_fail vX4_fail lX4_75 ⟨by decide, by decide⟩ (rfl : vwCl[4]? = some (RX4, TX4, 14)) g16 rfl hc (Nat.le_of_ble_eq_true rfl) rfl dX4_takeNew_51 kk) (zC.mono H ?_)
      rintro r0 h20 ⟨x21, rfl, H⟩
      show zX mX4_takeNew 54 [.ref l0, .ref l1, .int l2, .int l3] [.int x21] h20 Q
      obtain ⟨g22, H⟩ := H
      exact zX_ret (some (.int x21)) (fun C Cr hc => x_iret C Cr rfl (by rcases g22 with z | z <;> rw [z] <;> rfl) hc dX4_takeNew_54 ⟨rfl, rfl⟩) H
    · replace H := H.2 q19
      refine zX_seg (pc' := 30) (L' := [.ref l0, .ref l1, .int l2, .int (l3 + 1)]) (st' := []) (h2 := h) rfl rfl (fun C Cr hc kk => x_iinc C (l3 + 1) rfl (congrArg (HAdd.hAdd _) (by decide)) (by decide) dX4_takeNew_55 (x_goto C 30 dX4_takeNew_58 (by decide) (kk))) ?_
      exact zX_wk (wkK (wkK (wkK (wkK wkN)))) H
theorem nX4_takeNew (t : Nat) (p0 : Nat) (p1 : Int32) (h : zH) (Q : Option Value → zH → Prop) (H : zX mX4_takeNew 0 [.ref t, .ref p0, .int p1, .float 0] [] h Q) : zC mX4_takeNew [.ref t, .ref p0, .int p1] h Q := zC_of (by decide +kernel) (by simp) (Nat.le_of_ble_eq_true rfl) H
set_option maxHeartbeats 20000000 in
theorem bX4_takeKnown_0 (t : Nat) (p0 : Nat) (p1 : Int32) (p2 : Int32) (h : zH) (Q : Option Value → zH → Prop) (H : oK h t 4 ∧ (((gI h t 12) = 0 → (∃ a3 : Nat, gR h t 0 = some a3 ∧ (oK h a3 8 ∧ (((gI h a3 8) = (20 : Int32) → (zX mX4_takeKnown 33 [.ref t, .ref p0, .int p1, .int p2, .int (-1 : Int32), .int (0 : Int32)] [] h Q)) ∧ (¬ ((gI h a3 8) = (20 : Int32)) → (zC mX4_fail [.ref t, .int (2 : Int32)] h (fun r0 h6 => ∃ x7 : Int32, r0 = some (.int x7) ∧ (Q (some (.int (-1 : Int32))) h6)))))))) ∧ (¬ ((gI h t 12) = 0) → (zC mX4_fail [.ref t, .int (2 : Int32)] h (fun r0 h8 => ∃ x9 : Int32, r0 = some (.int x9) ∧ (Q (some (.int (-1 : Int32))) h8)))))) : zX mX4_takeKnown 0 [.ref t, .ref p0, .int p1, .int p2, .float 0, .float 0] [] h Q := by
  obtain ⟨g1, H⟩ := H
  refine zX_seg (pc' := 4) (L' := [.ref t, .ref p0, .int p1, .int p2, .float 0, .float 0]) (st' := [.int (gI h t 12)]) (h2 := h) rfl rfl (fun C Cr hc kk => x_aload_n C (v := .ref t) rfl rfl dX4_takeKnown_0 (f_getI C lX4_38 g1 rfl dX4_takeKnown_1 (kk))) ?_
  refine zX_br (p1 := 7) (p2 := 19) (st' := []) ((gI h t 12) = 0) (fun C kt kf => x_if_ne C 19 dX4_takeKnown_4 (by decide) kf kt) (fun q2 => ?_) (fun q2 => ?_)
  · replace H := H.1 q2
    obtain ⟨a3, ea3, H⟩ := H
    obtain ⟨g4, H⟩ := H
    refine zX_seg (pc' := 16) (L' := [.ref t, .ref p0, .int p1, .int p2, .float 0, .float 0]) (st' := [.int (20 : Int32), .int (gI h a3 8)]) (h2 := h) rfl rfl (fun C Cr hc kk => x_aload_n C (v := .ref t) rfl rfl dX4_takeKnown_7 (f_getR1 C lX4_12 g1 rfl ea3 dX4_takeKnown_8 (f_getIN C lX4_41 g4 rfl dX4_takeKnown_11 (x_bipush C (20 : Int32) (by decide) dX4_takeKnown_14 (kk))))) ?_
    refine zX_br (p1 := 27) (p2 := 19) (st' := []) ((gI h a3 8) = (20 : Int32)) (fun C kt kf => x_icmp_eq C 27 dX4_takeKnown_16 (by decide) kt kf) (fun q5 => ?_) (fun q5 => ?_)
    · replace H := H.1 q5
      refine zX_seg (pc' := 33) (L' := [.ref t, .ref p0, .int p1, .int p2, .int (-1 : Int32), .int (0 : Int32)]) (st' := []) (h2 := h) rfl rfl (fun C Cr hc kk => x_iconst C (-1 : Int32) (by decide) dX4_takeKnown_27 (x_istore C (by decide) dX4_takeKnown_28 (x_iconst C (0 : Int32) (by decide) dX4_takeKnown_30 (x_istore C (by decide) dX4_takeKnown_31 (kk))))) ?_
      exact zX_wk (wkK (wkK (wkK (wkK (wkK (wkK wkN)))))) H
    · replace H := H.2 q5
      refine zX_seg (pc' := 21) (L' := [.ref t, .ref p0, .int p1, .int p2, .float 0, .float 0]) (st' := [.int (2 : Int32), .ref t]) (h2 := h) rfl rfl (fun C Cr hc kk => x_aload_n C (v := .ref t) rfl rfl dX4_takeKnown_19 (x_iconst C (2 : Int32) (by decide) dX4_takeKnown_20 (kk))) ?_
      refine zX_call (as := [.ref t, .int (2 : Int32)]) (st := []) (fun C hM hc kk => f_callV C [.int (2 : Int32)] hM kX4_fail vX4_fail lX4_75 ⟨by decide, by decide⟩ (rfl : vwCl[4]? = some (RX4, TX4, 14)) g1 rfl hc (Nat.le_of_ble_eq_true rfl) rfl dX4_takeKnown_21 kk) (zC.mono H ?_)
      rintro r0 h6 ⟨x7, rfl, H⟩
      show zX mX4_takeKnown 24 [.ref t, .ref p0, .int p1, .int p2, .float 0, .float 0] [.int x7] h6 Q
      refine zX_seg (pc' := 26) (L' := [.ref t, .ref p0, .int p1, .int p2, .float 0, .float 0]) (st' := [.int (-1 : Int32)]) (h2 := h6) rfl rfl (fun C Cr hc kk => x_pop C rfl dX4_takeKnown_24 (x_iconst C (-1 : Int32) (by decide) dX4_takeKnown_25 (kk))) ?_
      exact zX_ret (some (.int (-1 : Int32))) (fun C Cr hc => x_iret C Cr rfl rfl hc dX4_takeKnown_26 ⟨rfl, rfl⟩) H
  · replace H := H.2 q2
    refine zX_seg (pc' := 21) (L' := [.ref t, .ref p0, .int p1, .int p2, .float 0, .float 0]) (st' := [.int (2 : Int32), .ref t]) (h2 := h) rfl rfl (fun C Cr hc kk => x_aload_n C (v := .ref t) rfl rfl dX4_takeKnown_19 (x_iconst C (2 : Int32) (by decide) dX4_takeKnown_20 (kk))) ?_
    refine zX_call (as := [.ref t, .int (2 : Int32)]) (st := []) (fun C hM hc kk => f_callV C [.int (2 : Int32)] hM kX4_fail vX4_fail lX4_75 ⟨by decide, by decide⟩ (rfl : vwCl[4]? = some (RX4, TX4, 14)) g1 rfl hc (Nat.le_of_ble_eq_true rfl) rfl dX4_takeKnown_21 kk) (zC.mono H ?_)
    rintro r0 h8 ⟨x9, rfl, H⟩
    show zX mX4_takeKnown 24 [.ref t, .ref p0, .int p1, .int p2, .float 0, .float 0] [.int x9] h8 Q
    refine zX_seg (pc' := 26) (L' := [.ref t, .ref p0, .int p1, .int p2, .float 0, .float 0]) (st' := [.int (-1 : Int32)]) (h2 := h8) rfl rfl (fun C Cr hc kk => x_pop C rfl dX4_takeKnown_24 (x_iconst C (-1 : Int32) (by decide) dX4_takeKnown_25 (kk))) ?_
    exact zX_ret (some (.int (-1 : Int32))) (fun C Cr hc => x_iret C Cr rfl rfl hc dX4_takeKnown_26 ⟨rfl, rfl⟩) H
set_option maxHeartbeats 20000000 in
theorem bX4_takeKnown_33 (l0 : Nat) (l1 : Nat) (l2 : Int32) (l3 : Int32) (l4 : Int32) (l5 : Int32) (h : zH) (Q : Option Value → zH → Prop) (H : (l2 ≤ l5 → (zX mX4_takeKnown 71 [.ref l0, .float 0, .float 0, .int l3, .int l4, .float 0] [] h Q)) ∧ (¬ (l2 ≤ l5) → (lK h l1 ∧ (((nI (aN h l1)) ≤ l5 → (zX mX4_takeKnown 71 [.ref l0, .float 0, .float 0, .int l3, .int l4, .float 0] [] h Q)) ∧ (¬ ((nI (aN h l1)) ≤ l5) → (vp_in l5 (aN h l1) ∧ (oK h l0 4 ∧ (∃ a6 : Nat, gR h l0 0 = some a6 ∧ (oK h a6 8 ∧ (((lg_cmp (aL h l1 l5.toNatClampNeg) (gL h a6 10)) = 0 → (zX mX4_takeKnown 33 [.ref l0, .ref l1, .int l2, .int l3, .int l5, .int (l5 + 1)] [] h Q)) ∧ (¬ ((lg_cmp (aL h l1 l5.toNatClampNeg) (gL h a6 10)) = 0) → (zX mX4_takeKnown 33 [.ref l0, .ref l1, .int l2, .int l3, .int l4, .int (l5 + 1)] [] h Q)))))))))))) : zX mX4_takeKnown 33 [.ref l0, .ref l1, .int l2, .int l3, .int l4, .int l5] [] h Q := by
  refine zX_seg (pc' := 36) (L' := [.ref l0, .ref l1, .int l2, .int l3, .int l4, .int l5]) (st' := [.int l2, .int l5]) (h2 := h) rfl rfl (fun C Cr hc kk => x_iload C rfl dX4_takeKnown_33 (x_iload_n C rfl dX4_takeKnown_35 (kk))) ?_
  refine zX_br (p1 := 71) (p2 := 39) (st' := []) (l2 ≤ l5) (fun C kt kf => x_icmp_ge C 71 dX4_takeKnown_36 (by decide) kt kf) (fun q1 => ?_) (fun q1 => ?_)
  · replace H := H.1 q1
    exact zX_wk (wkK (wkD (wkD (wkK (wkK (wkD wkN)))))) H
  · replace H := H.2 q1
    obtain ⟨g2, H⟩ := H
    refine zX_seg (pc' := 43) (L' := [.ref l0, .ref l1, .int l2, .int l3, .int l4, .int l5]) (st' := [.int (nI (aN h l1)), .int l5]) (h2 := h) rfl rfl (fun C Cr hc kk => x_iload C rfl dX4_takeKnown_39 (x_aload_n C (v := .ref l1) rfl rfl dX4_takeKnown_41 (f_alenL C g2 dX4_takeKnown_42 (kk)))) ?_
    refine zX_br (p1 := 71) (p2 := 46) (st' := []) ((nI (aN h l1)) ≤ l5) (fun C kt kf => x_icmp_ge C 71 dX4_takeKnown_43 (by decide) kt kf) (fun q3 => ?_) (fun q3 => ?_)
    · replace H := H.1 q3
      exact zX_wk (wkK (wkD (wkD (wkK (wkK (wkD wkN)))))) H
    · replace H := H.2 q3
      obtain ⟨g4, H⟩ := H
      obtain ⟨g5, H⟩ := H
      obtain ⟨a6, ea6, H⟩ := H
      obtain ⟨g7, H⟩ := H
      refine zX_seg (pc' := 58) (L' := [.ref l0, .ref l1, .int l2, .int l3, .int l4, .int l5]) (st' := [.int (lg_cmp (aL h l1 l5.toNatClampNeg) (gL h a6 10))]) (h2 := h) rfl rfl (fun C Cr hc kk => x_aload_n C (v := .ref l1) rfl rfl dX4_takeKnown_46 (x_iload C rfl dX4_takeKnown_47 (f_lald C g2 g4 dX4_takeKnown_49 (x_aload_n C (v := .ref l0) rfl rfl dX4_takeKnown_50 (f_getR1 C lX4_12 g5 rfl ea6 dX4_takeKnown_51 (f_getLN C lX4_163 g7 rfl dX4_takeKnown_54 (x_lcmp C dX4_takeKnown_57 (kk)))))))) ?_
      refine zX_br (p1 := 61) (p2 := 65) (st' := []) ((lg_cmp (aL h l1 l5.toNatClampNeg) (gL h a6 10)) = 0) (fun C kt kf => x_if_ne C 65 dX4_takeKnown_58 (by decide) kf kt) (fun q8 => ?_) (fun q8 => ?_)
      · replace H := H.1 q8
        refine zX_seg (pc' := 33) (L' := [.ref l0, .ref l1, .int l2, .int l3, .int l5, .int (l5 + 1)]) (st' := []) (h2 := h) rfl rfl (fun C Cr hc kk => x_iload C rfl dX4_takeKnown_61 (x_istore C (by decide) dX4_takeKnown_63 (x_iinc C (l5 + 1) rfl (congrArg (HAdd.hAdd _) (by decide)) (by decide) dX4_takeKnown_65 (x_goto C 33 dX4_takeKnown_68 (by decide) (kk))))) ?_
        exact zX_wk (wkK (wkK (wkK (wkK (wkK (wkK wkN)))))) H
      · replace H := H.2 q8
        refine zX_seg (pc' := 33) (L' := [.ref l0, .ref l1, .int l2, .int l3, .int l4, .int (l5 + 1)]) (st' := []) (h2 := h) rfl rfl (fun C Cr hc kk => x_iinc C (l5 + 1) rfl (congrArg (HAdd.hAdd _) (by decide)) (by decide) dX4_takeKnown_65 (x_goto C 33 dX4_takeKnown_68 (by decide) (kk))) ?_
        exact zX_wk (wkK (wkK (wkK (wkK (wkK (wkK wkN)))))) H
set_option maxHeartbeats 20000000 in
theorem bX4_takeKnown_71 (l0 : Nat) (l3 : Int32) (l4 : Int32) (h : zH) (Q : Option Value → zH → Prop) (H : (l4 = (-1 : Int32) → (oK h l0 4 ∧ (zC mX4_fail [.ref l0, .int (5 : Int32)] h (fun r0 h3 => ∃ x4 : Int32, r0 = some (.int x4) ∧ (Q (some (.int (-1 : Int32))) h3))))) ∧ (¬ (l4 = (-1 : Int32)) → ((((l3 >>> (l4 &&& 31)) &&& (1 : Int32)) = (1 : Int32) → (oK h l0 4 ∧ (zC mX4_fail [.ref l0, .int (3 : Int32)] h (fun r0 h7 => ∃ x8 : Int32, r0 = some (.int x8) ∧ (Q (some (.int (-1 : Int32))) h7))))) ∧ (¬ (((l3 >>> (l4 &&& 31)) &&& (1 : Int32)) = (1 : Int32)) → (oK h l0 4 ∧ (∃ a10 : Nat, gR h l0 0 = some a10 ∧ (oK h a10 8 ∧ (zC mX8_advance [.ref a10] h (fun r0 h12 => r0 = none ∧ (Q (some (.int l4)) h12)))))))))) : zX mX4_takeKnown 71 [.ref l0, .float 0, .float 0, .int l3, .int l4, .float 0] [] h Q := by
  refine zX_seg (pc' := 74) (L' := [.ref l0, .float 0, .float 0, .int l3, .int l4, .float 0]) (st' := [.int (-1 : Int32), .int l4]) (h2 := h) rfl rfl (fun C Cr hc kk => x_iload C rfl dX4_takeKnown_71 (x_iconst C (-1 : Int32) (by decide) dX4_takeKnown_73 (kk))) ?_
  refine zX_br (p1 := 77) (p2 := 85) (st' := []) (l4 = (-1 : Int32)) (fun C kt kf => x_icmp_ne C 85 dX4_takeKnown_74 (by decide) kf kt) (fun q1 => ?_) (fun q1 => ?_)
  · replace H := H.1 q1
    refine zX_seg (pc' := 79) (L' := [.ref l0, .float 0, .float 0, .int l3, .int l4, .float 0]) (st' := [.int (5 : Int32), .ref l0]) (h2 := h) rfl rfl (fun C Cr hc kk => x_aload_n C (v := .ref l0) rfl rfl dX4_takeKnown_77 (x_iconst C (5 : Int32) (by decide) dX4_takeKnown_78 (kk))) ?_
    obtain ⟨g2, H⟩ := H
    refine zX_call (as := [.ref l0, .int (5 : Int32)]) (st := []) (fun C hM hc kk => f_callV C [.int (5 : Int32)] hM kX4_fail vX4_fail lX4_75 ⟨by decide, by decide⟩ (rfl : vwCl[4]? = some (RX4, TX4, 14)) g2 rfl hc (Nat.le_of_ble_eq_true rfl) rfl dX4_takeKnown_79 kk) (zC.mono H ?_)
    rintro r0 h3 ⟨x4, rfl, H⟩
    show zX mX4_takeKnown 82 [.ref l0, .float 0, .float 0, .int l3, .int l4, .float 0] [.int x4] h3 Q
    refine zX_seg (pc' := 84) (L' := [.ref l0, .float 0, .float 0, .int l3, .int l4, .float 0]) (st' := [.int (-1 : Int32)]) (h2 := h3) rfl rfl (fun C Cr hc kk => x_pop C rfl dX4_takeKnown_82 (x_iconst C (-1 : Int32) (by decide) dX4_takeKnown_83 (kk))) ?_
    exact zX_ret (some (.int (-1 : Int32))) (fun C Cr hc => x_iret C Cr rfl rfl hc dX4_takeKnown_84 ⟨rfl, rfl⟩) H
  · replace H := H.2 q1
    refine zX_seg (pc' := 92) (L' := [.ref l0, .float 0, .float 0, .int l3, .int l4, .float 0]) (st' := [.int (1 : Int32), .int ((l3 >>> (l4 &&& 31)) &&& (1 : Int32))]) (h2 := h) rfl rfl (fun C Cr hc kk => x_iload_n C rfl dX4_takeKnown_85 (x_iload C rfl dX4_takeKnown_86 (x_ishr C dX4_takeKnown_88 (x_iconst C (1 : Int32) (by decide) dX4_takeKnown_89 (x_iand C dX4_takeKnown_90 (x_iconst C (1 : Int32) (by decide) dX4_takeKnown_91 (kk))))))) ?_
    refine zX_br (p1 := 95) (p2 := 103) (st' := []) (((l3 >>> (l4 &&& 31)) &&& (1 : Int32)) = (1 : Int32)) (fun C kt kf => x_icmp_ne C 103 dX4_takeKnown_92 (by decide) kf kt) (fun q5 => ?_) (fun q5 => ?_)
    · replace H := H.1 q5
      refine zX_seg (pc' := 97) (L' := [.ref l0, .float 0, .float 0, .int l3, .int l4, .float 0]) (st' := [.int (3 : Int32), .ref l0]) (h2 := h) rfl rfl (fun C Cr hc kk => x_aload_n C (v := .ref l0) rfl rfl dX4_takeKnown_95 (x_iconst C (3 : Int32) (by decide) dX4_takeKnown_96 (kk))) ?_
      obtain ⟨g6, H⟩ := H
      refine zX_call (as := [.ref l0, .int (3 : Int32)]) (st := []) (fun C hM hc kk => f_callV C [.int (3 : Int32)] hM kX4_fail vX4_fail lX4_75 ⟨by decide, by decide⟩ (rfl : vwCl[4]? = some (RX4, TX4, 14)) g6 rfl hc (Nat.le_of_ble_eq_true rfl) rfl dX4_takeKnown_97 kk) (zC.mono H ?_)
      rintro r0 h7 ⟨x8, rfl, H⟩
      show zX mX4_takeKnown 100 [.ref l0, .float 0, .float 0, .int l3, .int l4, .float 0] [.int x8] h7 Q
      refine zX_seg (pc' := 102) (L' := [.ref l0, .float 0, .float 0, .int l3, .int l4, .float 0]) (st' := [.int (-1 : Int32)]) (h2 := h7) rfl rfl (fun C Cr hc kk => x_pop C rfl dX4_takeKnown_100 (x_iconst C (-1 : Int32) (by decide) dX4_takeKnown_101 (kk))) ?_
      exact zX_ret (some (.int (-1 : Int32))) (fun C Cr hc => x_iret C Cr rfl rfl hc dX4_takeKnown_102 ⟨rfl, rfl⟩) H
    · replace H := H.2 q5
      obtain ⟨g9, H⟩ := H
      obtain ⟨a10, ea10, H⟩ := H
      refine zX_seg (pc' := 107) (L' := [.ref l0, .float 0, .float 0, .int l3, .int l4, .float 0]) (st' := [.ref a10]) (h2 := h) rfl rfl (fun C Cr hc kk => x_aload_n C (v := .ref l0) rfl rfl dX4_takeKnown_103 (f_getR1 C lX4_12 g9 rfl ea10 dX4_takeKnown_104 (kk))) ?_
      obtain ⟨g11, H⟩ := H
      refine zX_call (as := [.ref a10]) (st := []) (fun C hM hc kk => f_callVN C [] hM kX8_advance vX8_advance lX4_133 ⟨by decide, by decide⟩ (rfl : vwCl[8]? = some (RX8, TX8, 11)) g11 rfl hc (Nat.le_of_ble_eq_true rfl) rfl dX4_takeKnown_107 kk) (zC.mono H ?_)
      rintro r0 h12 ⟨rfl, H⟩
      show zX mX4_takeKnown 110 [.ref l0, .float 0, .float 0, .int l3, .int l4, .float 0] [] h12 Q
      refine zX_seg (pc' := 112) (L' := [.ref l0, .float 0, .float 0, .int l3, .int l4, .float 0]) (st' := [.int l4]) (h2 := h12) rfl rfl (fun C Cr hc kk => x_iload C rfl dX4_takeKnown_110 (kk)) ?_
      exact zX_ret (some (.int l4)) (fun C Cr hc => x_iret C Cr rfl rfl hc dX4_takeKnown_112 ⟨rfl, rfl⟩) H
theorem nX4_takeKnown (t : Nat) (p0 : Nat) (p1 : Int32) (p2 : Int32) (h : zH) (Q : Option Value → zH → Prop) (H : zX mX4_takeKnown 0 [.ref t, .ref p0, .int p1, .int p2, .float 0, .float 0] [] h Q) : zC mX4_takeKnown [.ref t, .ref p0, .int p1, .int p2] h Q := zC_of (by decide +kernel) (by simp) (Nat.le_of_ble_eq_true rfl) H
set_option maxHeartbeats 20000000 in
theorem bX4_takeOther_0 (t : Nat) (h : zH) (Q : Option Value → zH → Prop) (H : oK h t 4 ∧ (∃ a2 : Nat, gR h t 3 = some a2 ∧ (oK h a2 10 ∧ (∃ a4 : Nat, gR h a2 2 = some a4 ∧ (zC mX4_takeKnown [.ref t, .ref a4, .int (gI h a2 8), .int ((1 : Int32) <<< ((gI h t 7) &&& 31))] h (fun r0 h5 => ∃ x6 : Int32, r0 = some (.int x6) ∧ ((x6 < 0 → (Q (some (.int x6)) h5)) ∧ (¬ (x6 < 0) → (oK h5 t 4 ∧ (∀ h9 : zH, h9 = (pF h5 t 10 (.int ((gI h5 t 10) ||| ((1 : Int32) <<< (x6 &&& 31))))) → (Q (some (.int x6)) h9))))))))))) : zX mX4_takeOther 0 [.ref t, .float 0] [] h Q := by
  obtain ⟨g1, H⟩ := H
  obtain ⟨a2, ea2, H⟩ := H
  obtain ⟨g3, H⟩ := H
  obtain ⟨a4, ea4, H⟩ := H
  refine zX_seg (pc' := 21) (L' := [.ref t, .float 0]) (st' := [.int ((1 : Int32) <<< ((gI h t 7) &&& 31)), .int (gI h a2 8), .ref a4, .ref t]) (h2 := h) rfl rfl (fun C Cr hc kk => x_aload_n C (v := .ref t) rfl rfl dX4_takeOther_0 (x_aload_n C (v := .ref t) rfl rfl dX4_takeOther_1 (f_getR1 C lX4_60 g1 rfl ea2 dX4_takeOther_2 (f_getR1N C lX4_156 g3 rfl ea4 dX4_takeOther_5 (x_aload_n C (v := .ref t) rfl rfl dX4_takeOther_8 (f_getR1 C lX4_60 g1 rfl ea2 dX4_takeOther_9 (f_getIN C lX4_153 g3 rfl dX4_takeOther_12 (x_iconst C (1 : Int32) (by decide) dX4_takeOther_15 (x_aload_n C (v := .ref t) rfl rfl dX4_takeOther_16 (f_getI C lX4_64 g1 rfl dX4_takeOther_17 (x_ishl C dX4_takeOther_20 (kk)))))))))))) ?_
  refine zX_call (as := [.ref t, .ref a4, .int (gI h a2 8), .int ((1 : Int32) <<< ((gI h t 7) &&& 31))]) (st := []) (fun C hM hc kk => f_callV C [.ref a4, .int (gI h a2 8), .int ((1 : Int32) <<< ((gI h t 7) &&& 31))] hM kX4_takeKnown vX4_takeKnown lX4_159 ⟨by decide, by decide⟩ (rfl : vwCl[4]? = some (RX4, TX4, 14)) g1 rfl hc (Nat.le_of_ble_eq_true rfl) rfl dX4_takeOther_21 kk) (zC.mono H ?_)
  rintro r0 h5 ⟨x6, rfl, H⟩
  show zX mX4_takeOther 24 [.ref t, .float 0] [.int x6] h5 Q
  refine zX_seg (pc' := 26) (L' := [.ref t, .int x6]) (st' := [.int x6]) (h2 := h5) rfl rfl (fun C Cr hc kk => x_istore_n C (by decide) dX4_takeOther_24 (x_iload_n C rfl dX4_takeOther_25 (kk))) ?_
  refine zX_br (p1 := 41) (p2 := 29) (st' := []) (x6 < 0) (fun C kt kf => x_if_lt C 41 dX4_takeOther_26 (by decide) kt kf) (fun q7 => ?_) (fun q7 => ?_)
  · replace H := H.1 q7
    refine zX_seg (pc' := 42) (L' := [.ref t, .int x6]) (st' := [.int x6]) (h2 := h5) rfl rfl (fun C Cr hc kk => x_iload_n C rfl dX4_takeOther_41 (kk)) ?_
    exact zX_ret (some (.int x6)) (fun C Cr hc => x_iret C Cr rfl rfl hc dX4_takeOther_42 ⟨rfl, rfl⟩) H
  · replace H := H.2 q7
    obtain ⟨g8, H⟩ := H
    refine zX_seg (pc' := 41) (L' := [.ref t, .int x6]) (st' := []) (h2 := (pF h5 t 10 (.int ((gI h5 t 10) ||| ((1 : Int32) <<< (x6 &&& 31)))))) rfl rfl (fun C Cr hc kk => x_aload_n C (v := .ref t) rfl rfl dX4_takeOther_29 (x_dup C rfl dX4_takeOther_30 (f_getI C lX4_112 g8 rfl dX4_takeOther_31 (x_iconst C (1 : Int32) (by decide) dX4_takeOther_34 (x_iload_n C rfl dX4_takeOther_35 (x_ishl C dX4_takeOther_36 (x_ior C dX4_takeOther_37 (f_putI C lX4_112 tX4 nX4_10 g8 rfl rfl dX4_takeOther_38 (kk))))))))) ?_
    obtain ⟨h9, eh9⟩ : ∃ y : zH, y = (pF h5 t 10 (.int ((gI h5 t 10) ||| ((1 : Int32) <<< (x6 &&& 31))))) := ⟨_, rfl⟩
    replace H := H h9 eh9
    rw [← eh9]
    have g10 : oK h9 t 4 := by rw [eh9]; exact oK_pF' g8 rfl rfl g8
    refine zX_seg (pc' := 42) (L' := [.ref t, .int x6]) (st' := [.int x6]) (h2 := h9) rfl rfl (fun C Cr hc kk => x_iload_n C rfl dX4_takeOther_41 (kk)) ?_
    exact zX_ret (some (.int x6)) (fun C Cr hc => x_iret C Cr rfl rfl hc dX4_takeOther_42 ⟨rfl, rfl⟩) H
theorem nX4_takeOther (t : Nat) (h : zH) (Q : Option Value → zH → Prop) (H : zX mX4_takeOther 0 [.ref t, .float 0] [] h Q) : zC mX4_takeOther [.ref t] h Q := zC_of (by decide +kernel) (by simp) (Nat.le_of_ble_eq_true rfl) H
set_option maxHeartbeats 20000000 in
theorem bX4_takeStreet_0 (t : Nat) (h : zH) (Q : Option Value → zH → Prop) (H : oK h t 4 ∧ (∃ a2 : Nat, gR h t 0 = some a2 ∧ (oK h a2 8 ∧ (((gI h a2 8) = (12 : Int32) → (zC mX8_advance [.ref a2] h (fun r0 h5 => r0 = none ∧ (oK h5 t 4 ∧ (∃ a7 : Nat, gR h5 t 3 = some a7 ∧ (oK h5 a7 10 ∧ (∃ a9 : Nat, gR h5 a7 1 = some a9 ∧ (zC mX4_takeKnown [.ref t, .ref a9, .int (gI h5 a7 7), .int (0 : Int32)] h5 (fun r0 h10 => ∃ x11 : Int32, r0 = some (.int x11) ∧ ((0 ≤ x11 → (oK h10 t 4 ∧ (∀ h14 : zH, h14 = (pF h10 t 11 (.int ((gI h10 t 11) ||| ((1 : Int32) <<< ((x11 + (1 : Int32)) &&& 31))))) → (Q (some (.int (x11 + (1 : Int32)))) h14)))) ∧ (¬ (0 ≤ x11) → (Q (some (.int (-1 : Int32))) h10)))))))))))) ∧ (¬ ((gI h a2 8) = (12 : Int32)) → (∀ h16 : zH, h16 = (pF h t 11 (.int ((gI h t 11) ||| ((1 : Int32) <<< ((0 : Int32) &&& 31))))) → (Q (some (.int (0 : Int32))) h16))))))) : zX mX4_takeStreet 0 [.ref t, .float 0, .float 0] [] h Q := by
  obtain ⟨g1, H⟩ := H
  obtain ⟨a2, ea2, H⟩ := H
  obtain ⟨g3, H⟩ := H
  refine zX_seg (pc' := 11) (L' := [.ref t, .int (0 : Int32), .float 0]) (st' := [.int (12 : Int32), .int (gI h a2 8)]) (h2 := h) rfl rfl (fun C Cr hc kk => x_iconst C (0 : Int32) (by decide) dX4_takeStreet_0 (x_istore_n C (by decide) dX4_takeStreet_1 (x_aload_n C (v := .ref t) rfl rfl dX4_takeStreet_2 (f_getR1 C lX4_12 g1 rfl ea2 dX4_takeStreet_3 (f_getIN C lX4_41 g3 rfl dX4_takeStreet_6 (x_bipush C (12 : Int32) (by decide) dX4_takeStreet_9 (kk))))))) ?_
  refine zX_br (p1 := 14) (p2 := 51) (st' := []) ((gI h a2 8) = (12 : Int32)) (fun C kt kf => x_icmp_ne C 51 dX4_takeStreet_11 (by decide) kf kt) (fun q4 => ?_) (fun q4 => ?_)
  · replace H := H.1 q4
    refine zX_seg (pc' := 18) (L' := [.ref t, .int (0 : Int32), .float 0]) (st' := [.ref a2]) (h2 := h) rfl rfl (fun C Cr hc kk => x_aload_n C (v := .ref t) rfl rfl dX4_takeStreet_14 (f_getR1 C lX4_12 g1 rfl ea2 dX4_takeStreet_15 (kk))) ?_
    refine zX_call (as := [.ref a2]) (st := []) (fun C hM hc kk => f_callVN C [] hM kX8_advance vX8_advance lX4_133 ⟨by decide, by decide⟩ (rfl : vwCl[8]? = some (RX8, TX8, 11)) g3 rfl hc (Nat.le_of_ble_eq_true rfl) rfl dX4_takeStreet_18 kk) (zC.mono H ?_)
    rintro r0 h5 ⟨rfl, H⟩
    show zX mX4_takeStreet 21 [.ref t, .int (0 : Int32), .float 0] [] h5 Q
    obtain ⟨g6, H⟩ := H
    obtain ⟨a7, ea7, H⟩ := H
    obtain ⟨g8, H⟩ := H
    obtain ⟨a9, ea9, H⟩ := H
    refine zX_seg (pc' := 37) (L' := [.ref t, .int (0 : Int32), .float 0]) (st' := [.int (0 : Int32), .int (gI h5 a7 7), .ref a9, .ref t]) (h2 := h5) rfl rfl (fun C Cr hc kk => x_aload_n C (v := .ref t) rfl rfl dX4_takeStreet_21 (x_aload_n C (v := .ref t) rfl rfl dX4_takeStreet_22 (f_getR1 C lX4_60 g6 rfl ea7 dX4_takeStreet_23 (f_getR1N C lX4_150 g8 rfl ea9 dX4_takeStreet_26 (x_aload_n C (v := .ref t) rfl rfl dX4_takeStreet_29 (f_getR1 C lX4_60 g6 rfl ea7 dX4_takeStreet_30 (f_getIN C lX4_147 g8 rfl dX4_takeStreet_33 (x_iconst C (0 : Int32) (by decide) dX4_takeStreet_36 (kk))))))))) ?_
    refine zX_call (as := [.ref t, .ref a9, .int (gI h5 a7 7), .int (0 : Int32)]) (st := []) (fun C hM hc kk => f_callV C [.ref a9, .int (gI h5 a7 7), .int (0 : Int32)] hM kX4_takeKnown vX4_takeKnown lX4_159 ⟨by decide, by decide⟩ (rfl : vwCl[4]? = some (RX4, TX4, 14)) g6 rfl hc (Nat.le_of_ble_eq_true rfl) rfl dX4_takeStreet_37 kk) (zC.mono H ?_)
    rintro r0 h10 ⟨x11, rfl, H⟩
    show zX mX4_takeStreet 40 [.ref t, .int (0 : Int32), .float 0] [.int x11] h10 Q
    refine zX_seg (pc' := 42) (L' := [.ref t, .int (0 : Int32), .int x11]) (st' := [.int x11]) (h2 := h10) rfl rfl (fun C Cr hc kk => x_istore_n C (by decide) dX4_takeStreet_40 (x_iload_n C rfl dX4_takeStreet_41 (kk))) ?_
    refine zX_br (p1 := 47) (p2 := 45) (st' := []) (0 ≤ x11) (fun C kt kf => x_if_ge C 47 dX4_takeStreet_42 (by decide) kt kf) (fun q12 => ?_) (fun q12 => ?_)
    · replace H := H.1 q12
      obtain ⟨g13, H⟩ := H
      refine zX_seg (pc' := 63) (L' := [.ref t, .int (x11 + (1 : Int32)), .int x11]) (st' := []) (h2 := (pF h10 t 11 (.int ((gI h10 t 11) ||| ((1 : Int32) <<< ((x11 + (1 : Int32)) &&& 31)))))) rfl rfl (fun C Cr hc kk => x_iload_n C rfl dX4_takeStreet_47 (x_iconst C (1 : Int32) (by decide) dX4_takeStreet_48 (x_iadd C dX4_takeStreet_49 (x_istore_n C (by decide) dX4_takeStreet_50 (x_aload_n C (v := .ref t) rfl rfl dX4_takeStreet_51 (x_dup C rfl dX4_takeStreet_52 (f_getI C lX4_115 g13 rfl dX4_takeStreet_53 (x_iconst C (1 : Int32) (by decide) dX4_takeStreet_56 (x_iload_n C rfl dX4_takeStreet_57 (x_ishl C dX4_takeStreet_58 (x_ior C dX4_takeStreet_59 (f_putI C lX4_115 tX4 nX4_11 g13 rfl rfl dX4_takeStreet_60 (kk))))))))))))) ?_
      obtain ⟨h14, eh14⟩ : ∃ y : zH, y = (pF h10 t 11 (.int ((gI h10 t 11) ||| ((1 : Int32) <<< ((x11 + (1 : Int32)) &&& 31))))) := ⟨_, rfl⟩
      replace H := H h14 eh14
      rw [← eh14]
      have g15 : oK h14 t 4 := by rw [eh14]; exact oK_pF' g13 rfl rfl g13
      refine zX_seg (pc' := 64) (L' := [.ref t, .int (x11 + (1 : Int32)), .int x11]) (st' := [.int (x11 + (1 : Int32))]) (h2 := h14) rfl rfl (fun C Cr hc kk => x_iload_n C rfl dX4_takeStreet_63 (kk)) ?_
      exact zX_ret (some (.int (x11 + (1 : Int32)))) (fun C Cr hc => x_iret C Cr rfl rfl hc dX4_takeStreet_64 ⟨rfl, rfl⟩) H
    · replace H := H.2 q12
      refine zX_seg (pc' := 46) (L' := [.ref t, .int (0 : Int32), .int x11]) (st' := [.int (-1 : Int32)]) (h2 := h10) rfl rfl (fun C Cr hc kk => x_iconst C (-1 : Int32) (by decide) dX4_takeStreet_45 (kk)) ?_
      exact zX_ret (some (.int (-1 : Int32))) (fun C Cr hc => x_iret C Cr rfl rfl hc dX4_takeStreet_46 ⟨rfl, rfl⟩) H
  · replace H := H.2 q4
    refine zX_seg (pc' := 63) (L' := [.ref t, .int (0 : Int32), .float 0]) (st' := []) (h2 := (pF h t 11 (.int ((gI h t 11) ||| ((1 : Int32) <<< ((0 : Int32) &&& 31)))))) rfl rfl (fun C Cr hc kk => x_aload_n C (v := .ref t) rfl rfl dX4_takeStreet_51 (x_dup C rfl dX4_takeStreet_52 (f_getI C lX4_115 g1 rfl dX4_takeStreet_53 (x_iconst C (1 : Int32) (by decide) dX4_takeStreet_56 (x_iload_n C rfl dX4_takeStreet_57 (x_ishl C dX4_takeStreet_58 (x_ior C dX4_takeStreet_59 (f_putI C lX4_115 tX4 nX4_11 g1 rfl rfl dX4_takeStreet_60 (kk))))))))) ?_
    obtain ⟨h16, eh16⟩ : ∃ y : zH, y = (pF h t 11 (.int ((gI h t 11) ||| ((1 : Int32) <<< ((0 : Int32) &&& 31))))) := ⟨_, rfl⟩
    replace H := H h16 eh16
    rw [← eh16]
    have g17 : oK h16 t 4 := by rw [eh16]; exact oK_pF' g1 rfl rfl g1
    have g18 : oK h16 a2 8 := by rw [eh16]; exact oK_pF' g1 rfl rfl g3
    refine zX_seg (pc' := 64) (L' := [.ref t, .int (0 : Int32), .float 0]) (st' := [.int (0 : Int32)]) (h2 := h16) rfl rfl (fun C Cr hc kk => x_iload_n C rfl dX4_takeStreet_63 (kk)) ?_
    exact zX_ret (some (.int (0 : Int32))) (fun C Cr hc => x_iret C Cr rfl rfl hc dX4_takeStreet_64 ⟨rfl, rfl⟩) H
theorem nX4_takeStreet (t : Nat) (h : zH) (Q : Option Value → zH → Prop) (H : zX mX4_takeStreet 0 [.ref t, .float 0, .float 0] [] h Q) : zC mX4_takeStreet [.ref t] h Q := zC_of (by decide +kernel) (by simp) (Nat.le_of_ble_eq_true rfl) H
set_option maxHeartbeats 20000000 in
theorem bX4_readWording_0 (t : Nat) (h : zH) (Q : Option Value → zH → Prop) (H : zX mX4_readWording 4 [.ref t, .int (0 : Int32), .int (0 : Int32)] [] h Q) : zX mX4_readWording 0 [.ref t, .float 0, .float 0] [] h Q := by
  refine zX_seg (pc' := 4) (L' := [.ref t, .int (0 : Int32), .int (0 : Int32)]) (st' := []) (h2 := h) rfl rfl (fun C Cr hc kk => x_iconst C (0 : Int32) (by decide) dX4_readWording_0 (x_istore_n C (by decide) dX4_readWording_1 (x_iconst C (0 : Int32) (by decide) dX4_readWording_2 (x_istore_n C (by decide) dX4_readWording_3 (kk))))) ?_
  exact zX_wk (wkK (wkK (wkK wkN))) H
set_option maxHeartbeats 20000000 in
theorem bX4_readWording_4 (l0 : Nat) (l1 : Int32) (l2 : Int32) (h : zH) (Q : Option Value → zH → Prop) (H : ((1601 : Int32) < l2 → (zX mX4_readWording 87 [.ref l0, .float 0, .float 0] [] h Q)) ∧ (¬ ((1601 : Int32) < l2) → (oK h l0 4 ∧ (((gI h l0 12) = 0 → ((l1 = (4 : Int32) → (zX mX4_readWording 87 [.ref l0, .float 0, .float 0] [] h Q)) ∧ (¬ (l1 = (4 : Int32)) → ((l1 = 0 → (zX mX4_readWording 52 [.ref l0, .float 0, .int l2] [] h Q)) ∧ ((l1 = 1 → (zX mX4_readWording 60 [.ref l0, .float 0, .int l2] [] h Q)) ∧ ((l1 = 2 → (zX mX4_readWording 68 [.ref l0, .float 0, .int l2] [] h Q)) ∧ (¬ l1 = 0 → ¬ l1 = 1 → ¬ l1 = 2 → (zX mX4_readWording 76 [.ref l0, .float 0, .int l2] [] h Q)))))))) ∧ (¬ ((gI h l0 12) = 0) → (zX mX4_readWording 87 [.ref l0, .float 0, .float 0] [] h Q)))))) : zX mX4_readWording 4 [.ref l0, .int l1, .int l2] [] h Q := by
  refine zX_seg (pc' := 8) (L' := [.ref l0, .int l1, .int l2]) (st' := [.int (1601 : Int32), .int l2]) (h2 := h) rfl rfl (fun C Cr hc kk => x_iload_n C rfl dX4_readWording_4 (x_sipush C (1601 : Int32) (by decide) dX4_readWording_5 (kk))) ?_
  refine zX_br (p1 := 87) (p2 := 11) (st' := []) ((1601 : Int32) < l2) (fun C kt kf => x_icmp_gt C 87 dX4_readWording_8 (by decide) kt kf) (fun q1 => ?_) (fun q1 => ?_)
  · replace H := H.1 q1
    exact zX_wk (wkK (wkD (wkD wkN))) H
  · replace H := H.2 q1
    obtain ⟨g2, H⟩ := H
    refine zX_seg (pc' := 15) (L' := [.ref l0, .int l1, .int l2]) (st' := [.int (gI h l0 12)]) (h2 := h) rfl rfl (fun C Cr hc kk => x_aload_n C (v := .ref l0) rfl rfl dX4_readWording_11 (f_getI C lX4_38 g2 rfl dX4_readWording_12 (kk))) ?_
    refine zX_br (p1 := 18) (p2 := 87) (st' := []) ((gI h l0 12) = 0) (fun C kt kf => x_if_ne C 87 dX4_readWording_15 (by decide) kf kt) (fun q3 => ?_) (fun q3 => ?_)
    · replace H := H.1 q3
      refine zX_seg (pc' := 20) (L' := [.ref l0, .int l1, .int l2]) (st' := [.int (4 : Int32), .int l1]) (h2 := h) rfl rfl (fun C Cr hc kk => x_iload_n C rfl dX4_readWording_18 (x_iconst C (4 : Int32) (by decide) dX4_readWording_19 (kk))) ?_
      refine zX_br (p1 := 87) (p2 := 23) (st' := []) (l1 = (4 : Int32)) (fun C kt kf => x_icmp_eq C 87 dX4_readWording_20 (by decide) kt kf) (fun q4 => ?_) (fun q4 => ?_)
      · replace H := H.1 q4
        exact zX_wk (wkK (wkD (wkD wkN))) H
      · replace H := H.2 q4
        refine zX_seg (pc' := (ztt 24 52 0 2 [28, 36, 44] l1)) (L' := [.ref l0, .int l1, .int l2]) (st' := []) (h2 := h) rfl rfl (fun C Cr hc kk => x_iload_n C rfl dX4_readWording_23 (f_table C ⟨⟨by decide, by decide⟩, by decide⟩ dX4_readWording_24 (kk))) ?_
        by_cases z5 : l1 = 0
        · replace H := H.1 z5
          rw [show (ztt 24 52 0 2 [28, 36, 44] l1) = 52 from by rw [z5]; decide]
          exact zX_wk (wkK (wkD (wkK wkN))) H
        · replace H := H.2
          by_cases z6 : l1 = 1
          · replace H := H.1 z6
            rw [show (ztt 24 52 0 2 [28, 36, 44] l1) = 60 from by rw [z6]; decide]
            exact zX_wk (wkK (wkD (wkK wkN))) H
          · replace H := H.2
            by_cases z7 : l1 = 2
            · replace H := H.1 z7
              rw [show (ztt 24 52 0 2 [28, 36, 44] l1) = 68 from by rw [z7]; decide]
              exact zX_wk (wkK (wkD (wkK wkN))) H
            · replace H := H.2
              rw [show (ztt 24 52 0 2 [28, 36, 44] l1) = 76 from (ztt_d [0, 1, 2] (by decide) (by decide) (List.forall_mem_cons.mpr ⟨z5, (List.forall_mem_cons.mpr ⟨z6, (List.forall_mem_cons.mpr ⟨z7, (fun _ h => absurd h List.not_mem_nil)⟩)⟩)⟩)).trans (by decide)]
              replace H := H z5 z6 z7
              exact zX_wk (wkK (wkD (wkK wkN))) H
    · replace H := H.2 q3
      exact zX_wk (wkK (wkD (wkD wkN))) H
set_option maxHeartbeats 20000000 in
theorem bX4_readWording_52 (l0 : Nat) (l2 : Int32) (h : zH) (Q : Option Value → zH → Prop) (H : oK h l0 4 ∧ (zC mX4_readStart [.ref l0] h (fun r0 h2 => ∃ x3 : Int32, r0 = some (.int x3) ∧ (zX mX4_readWording 4 [.ref l0, .int x3, .int (l2 + 1)] [] h2 Q)))) : zX mX4_readWording 52 [.ref l0, .float 0, .int l2] [] h Q := by
  refine zX_seg (pc' := 53) (L' := [.ref l0, .float 0, .int l2]) (st' := [.ref l0]) (h2 := h) rfl rfl (fun C Cr hc kk => x_aload_n C (v := .ref l0) rfl rfl dX4_readWording_52 (kk)) ?_
  obtain ⟨g1, H⟩ := H
  refine zX_call (as := [.ref l0]) (st := []) (fun C hM hc kk => f_callV C [] hM kX4_readStart vX4_readStart lX4_174 ⟨by decide, by decide⟩ (rfl : vwCl[4]? = some (RX4, TX4, 14)) g1 rfl hc (Nat.le_of_ble_eq_true rfl) rfl dX4_readWording_53 kk) (zC.mono H ?_)
  rintro r0 h2 ⟨x3, rfl, H⟩
  show zX mX4_readWording 56 [.ref l0, .float 0, .int l2] [.int x3] h2 Q
  refine zX_seg (pc' := 4) (L' := [.ref l0, .int x3, .int (l2 + 1)]) (st' := []) (h2 := h2) rfl rfl (fun C Cr hc kk => x_istore_n C (by decide) dX4_readWording_56 (x_goto C 81 dX4_readWording_57 (by decide) (x_iinc C (l2 + 1) rfl (congrArg (HAdd.hAdd _) (by decide)) (by decide) dX4_readWording_81 (x_goto C 4 dX4_readWording_84 (by decide) (kk))))) ?_
  exact zX_wk (wkK (wkK (wkK wkN))) H
set_option maxHeartbeats 20000000 in
theorem bX4_readWording_60 (l0 : Nat) (l2 : Int32) (h : zH) (Q : Option Value → zH → Prop) (H : oK h l0 4 ∧ (zC mX4_readUnit [.ref l0] h (fun r0 h2 => ∃ x3 : Int32, r0 = some (.int x3) ∧ (zX mX4_readWording 4 [.ref l0, .int x3, .int (l2 + 1)] [] h2 Q)))) : zX mX4_readWording 60 [.ref l0, .float 0, .int l2] [] h Q := by
  refine zX_seg (pc' := 61) (L' := [.ref l0, .float 0, .int l2]) (st' := [.ref l0]) (h2 := h) rfl rfl (fun C Cr hc kk => x_aload_n C (v := .ref l0) rfl rfl dX4_readWording_60 (kk)) ?_
  obtain ⟨g1, H⟩ := H
  refine zX_call (as := [.ref l0]) (st := []) (fun C hM hc kk => f_callV C [] hM kX4_readUnit vX4_readUnit lX4_178 ⟨by decide, by decide⟩ (rfl : vwCl[4]? = some (RX4, TX4, 14)) g1 rfl hc (Nat.le_of_ble_eq_true rfl) rfl dX4_readWording_61 kk) (zC.mono H ?_)
  rintro r0 h2 ⟨x3, rfl, H⟩
  show zX mX4_readWording 64 [.ref l0, .float 0, .int l2] [.int x3] h2 Q
  refine zX_seg (pc' := 4) (L' := [.ref l0, .int x3, .int (l2 + 1)]) (st' := []) (h2 := h2) rfl rfl (fun C Cr hc kk => x_istore_n C (by decide) dX4_readWording_64 (x_goto C 81 dX4_readWording_65 (by decide) (x_iinc C (l2 + 1) rfl (congrArg (HAdd.hAdd _) (by decide)) (by decide) dX4_readWording_81 (x_goto C 4 dX4_readWording_84 (by decide) (kk))))) ?_
  exact zX_wk (wkK (wkK (wkK wkN))) H
set_option maxHeartbeats 20000000 in
theorem bX4_readWording_68 (l0 : Nat) (l2 : Int32) (h : zH) (Q : Option Value → zH → Prop) (H : oK h l0 4 ∧ (zC mX4_readSign [.ref l0] h (fun r0 h2 => ∃ x3 : Int32, r0 = some (.int x3) ∧ (zX mX4_readWording 4 [.ref l0, .int x3, .int (l2 + 1)] [] h2 Q)))) : zX mX4_readWording 68 [.ref l0, .float 0, .int l2] [] h Q := by
  refine zX_seg (pc' := 69) (L' := [.ref l0, .float 0, .int l2]) (st' := [.ref l0]) (h2 := h) rfl rfl (fun C Cr hc kk => x_aload_n C (v := .ref l0) rfl rfl dX4_readWording_68 (kk)) ?_
  obtain ⟨g1, H⟩ := H
  refine zX_call (as := [.ref l0]) (st := []) (fun C hM hc kk => f_callV C [] hM kX4_readSign vX4_readSign lX4_181 ⟨by decide, by decide⟩ (rfl : vwCl[4]? = some (RX4, TX4, 14)) g1 rfl hc (Nat.le_of_ble_eq_true rfl) rfl dX4_readWording_69 kk) (zC.mono H ?_)
  rintro r0 h2 ⟨x3, rfl, H⟩
  show zX mX4_readWording 72 [.ref l0, .float 0, .int l2] [.int x3] h2 Q
  refine zX_seg (pc' := 4) (L' := [.ref l0, .int x3, .int (l2 + 1)]) (st' := []) (h2 := h2) rfl rfl (fun C Cr hc kk => x_istore_n C (by decide) dX4_readWording_72 (x_goto C 81 dX4_readWording_73 (by decide) (x_iinc C (l2 + 1) rfl (congrArg (HAdd.hAdd _) (by decide)) (by decide) dX4_readWording_81 (x_goto C 4 dX4_readWording_84 (by decide) (kk))))) ?_
  exact zX_wk (wkK (wkK (wkK wkN))) H
set_option maxHeartbeats 20000000 in
theorem bX4_readWording_76 (l0 : Nat) (l2 : Int32) (h : zH) (Q : Option Value → zH → Prop) (H : oK h l0 4 ∧ (zC mX4_readElse [.ref l0] h (fun r0 h2 => ∃ x3 : Int32, r0 = some (.int x3) ∧ (zX mX4_readWording 4 [.ref l0, .int x3, .int (l2 + 1)] [] h2 Q)))) : zX mX4_readWording 76 [.ref l0, .float 0, .int l2] [] h Q := by
  refine zX_seg (pc' := 77) (L' := [.ref l0, .float 0, .int l2]) (st' := [.ref l0]) (h2 := h) rfl rfl (fun C Cr hc kk => x_aload_n C (v := .ref l0) rfl rfl dX4_readWording_76 (kk)) ?_
  obtain ⟨g1, H⟩ := H
  refine zX_call (as := [.ref l0]) (st := []) (fun C hM hc kk => f_callV C [] hM kX4_readElse vX4_readElse lX4_184 ⟨by decide, by decide⟩ (rfl : vwCl[4]? = some (RX4, TX4, 14)) g1 rfl hc (Nat.le_of_ble_eq_true rfl) rfl dX4_readWording_77 kk) (zC.mono H ?_)
  rintro r0 h2 ⟨x3, rfl, H⟩
  show zX mX4_readWording 80 [.ref l0, .float 0, .int l2] [.int x3] h2 Q
  refine zX_seg (pc' := 4) (L' := [.ref l0, .int x3, .int (l2 + 1)]) (st' := []) (h2 := h2) rfl rfl (fun C Cr hc kk => x_istore_n C (by decide) dX4_readWording_80 (x_iinc C (l2 + 1) rfl (congrArg (HAdd.hAdd _) (by decide)) (by decide) dX4_readWording_81 (x_goto C 4 dX4_readWording_84 (by decide) (kk)))) ?_
  exact zX_wk (wkK (wkK (wkK wkN))) H
set_option maxHeartbeats 20000000 in
theorem bX4_readWording_87 (l0 : Nat) (h : zH) (Q : Option Value → zH → Prop) (H : oK h l0 4 ∧ (((gI h l0 12) = 0 → (Q (some (.int (1 : Int32))) h)) ∧ (¬ ((gI h l0 12) = 0) → (Q (some (.int (0 : Int32))) h)))) : zX mX4_readWording 87 [.ref l0, .float 0, .float 0] [] h Q := by
  obtain ⟨g1, H⟩ := H
  refine zX_seg (pc' := 91) (L' := [.ref l0, .float 0, .float 0]) (st' := [.int (gI h l0 12)]) (h2 := h) rfl rfl (fun C Cr hc kk => x_aload_n C (v := .ref l0) rfl rfl dX4_readWording_87 (f_getI C lX4_38 g1 rfl dX4_readWording_88 (kk))) ?_
  refine zX_br (p1 := 94) (p2 := 98) (st' := []) ((gI h l0 12) = 0) (fun C kt kf => x_if_ne C 98 dX4_readWording_91 (by decide) kf kt) (fun q2 => ?_) (fun q2 => ?_)
  · replace H := H.1 q2
    refine zX_seg (pc' := 99) (L' := [.ref l0, .float 0, .float 0]) (st' := [.int (1 : Int32)]) (h2 := h) rfl rfl (fun C Cr hc kk => x_iconst C (1 : Int32) (by decide) dX4_readWording_94 (x_goto C 99 dX4_readWording_95 (by decide) (kk))) ?_
    exact zX_ret (some (.int (1 : Int32))) (fun C Cr hc => x_iret C Cr rfl rfl hc dX4_readWording_99 ⟨rfl, rfl⟩) H
  · replace H := H.2 q2
    refine zX_seg (pc' := 99) (L' := [.ref l0, .float 0, .float 0]) (st' := [.int (0 : Int32)]) (h2 := h) rfl rfl (fun C Cr hc kk => x_iconst C (0 : Int32) (by decide) dX4_readWording_98 (kk)) ?_
    exact zX_ret (some (.int (0 : Int32))) (fun C Cr hc => x_iret C Cr rfl rfl hc dX4_readWording_99 ⟨rfl, rfl⟩) H
theorem nX4_readWording (t : Nat) (h : zH) (Q : Option Value → zH → Prop) (H : zX mX4_readWording 0 [.ref t, .float 0, .float 0] [] h Q) : zC mX4_readWording [.ref t] h Q := zC_of (by decide +kernel) (by simp) (Nat.le_of_ble_eq_true rfl) H
set_option maxHeartbeats 20000000 in
theorem bX4_readStart_0 (t : Nat) (h : zH) (Q : Option Value → zH → Prop) (H : oK h t 4 ∧ (∃ a2 : Nat, gR h t 0 = some a2 ∧ (oK h a2 8 ∧ (((gI h a2 8) = (6 : Int32) → (zC mX4_enter [.ref t, .int (0 : Int32)] h (fun r0 h5 => r0 = none ∧ (Q (some (.int (1 : Int32))) h5)))) ∧ (¬ ((gI h a2 8) = (6 : Int32)) → (zC mX4_readMark [.ref t] h (fun r0 h6 => ∃ x7 : Int32, r0 = some (.int x7) ∧ (Q (some (.int (3 : Int32))) h6)))))))) : zX mX4_readStart 0 [.ref t] [] h Q := by
  obtain ⟨g1, H⟩ := H
  obtain ⟨a2, ea2, H⟩ := H
  obtain ⟨g3, H⟩ := H
  refine zX_seg (pc' := 9) (L' := [.ref t]) (st' := [.int (6 : Int32), .int (gI h a2 8)]) (h2 := h) rfl rfl (fun C Cr hc kk => x_aload_n C (v := .ref t) rfl rfl dX4_readStart_0 (f_getR1 C lX4_12 g1 rfl ea2 dX4_readStart_1 (f_getIN C lX4_41 g3 rfl dX4_readStart_4 (x_bipush C (6 : Int32) (by decide) dX4_readStart_7 (kk))))) ?_
  refine zX_br (p1 := 12) (p2 := 19) (st' := []) ((gI h a2 8) = (6 : Int32)) (fun C kt kf => x_icmp_ne C 19 dX4_readStart_9 (by decide) kf kt) (fun q4 => ?_) (fun q4 => ?_)
  · replace H := H.1 q4
    refine zX_seg (pc' := 14) (L' := [.ref t]) (st' := [.int (0 : Int32), .ref t]) (h2 := h) rfl rfl (fun C Cr hc kk => x_aload_n C (v := .ref t) rfl rfl dX4_readStart_12 (x_iconst C (0 : Int32) (by decide) dX4_readStart_13 (kk))) ?_
    refine zX_call (as := [.ref t, .int (0 : Int32)]) (st := []) (fun C hM hc kk => f_callV C [.int (0 : Int32)] hM kX4_enter vX4_enter lX4_187 ⟨by decide, by decide⟩ (rfl : vwCl[4]? = some (RX4, TX4, 14)) g1 rfl hc (Nat.le_of_ble_eq_true rfl) rfl dX4_readStart_14 kk) (zC.mono H ?_)
    rintro r0 h5 ⟨rfl, H⟩
    show zX mX4_readStart 17 [.ref t] [] h5 Q
    refine zX_seg (pc' := 18) (L' := [.ref t]) (st' := [.int (1 : Int32)]) (h2 := h5) rfl rfl (fun C Cr hc kk => x_iconst C (1 : Int32) (by decide) dX4_readStart_17 (kk)) ?_
    exact zX_ret (some (.int (1 : Int32))) (fun C Cr hc => x_iret C Cr rfl rfl hc dX4_readStart_18 ⟨rfl, rfl⟩) H
  · replace H := H.2 q4
    refine zX_seg (pc' := 20) (L' := [.ref t]) (st' := [.ref t]) (h2 := h) rfl rfl (fun C Cr hc kk => x_aload_n C (v := .ref t) rfl rfl dX4_readStart_19 (kk)) ?_
    refine zX_call (as := [.ref t]) (st := []) (fun C hM hc kk => f_callV C [] hM kX4_readMark vX4_readMark lX4_190 ⟨by decide, by decide⟩ (rfl : vwCl[4]? = some (RX4, TX4, 14)) g1 rfl hc (Nat.le_of_ble_eq_true rfl) rfl dX4_readStart_20 kk) (zC.mono H ?_)
    rintro r0 h6 ⟨x7, rfl, H⟩
    show zX mX4_readStart 23 [.ref t] [.int x7] h6 Q
    refine zX_seg (pc' := 25) (L' := [.ref t]) (st' := [.int (3 : Int32)]) (h2 := h6) rfl rfl (fun C Cr hc kk => x_pop C rfl dX4_readStart_23 (x_iconst C (3 : Int32) (by decide) dX4_readStart_24 (kk))) ?_
    exact zX_ret (some (.int (3 : Int32))) (fun C Cr hc => x_iret C Cr rfl rfl hc dX4_readStart_25 ⟨rfl, rfl⟩) H
theorem nX4_readStart (t : Nat) (h : zH) (Q : Option Value → zH → Prop) (H : zX mX4_readStart 0 [.ref t] [] h Q) : zC mX4_readStart [.ref t] h Q := zC_of (by decide +kernel) (by simp) (Nat.le_of_ble_eq_true rfl) H
set_option maxHeartbeats 20000000 in
theorem bX4_readMark_0 (t : Nat) (h : zH) (Q : Option Value → zH → Prop) (H : oK h t 4 ∧ (∃ a2 : Nat, gR h t 0 = some a2 ∧ (oK h a2 8 ∧ (((gI h a2 8) = 9 → (zX mX4_readMark 123 [.ref t, .int (gI h a2 8), .float 0, .float 0, .float 0] [] h Q)) ∧ (((gI h a2 8) = 10 → (zX mX4_readMark 152 [.ref t, .int (gI h a2 8), .float 0, .float 0, .float 0] [] h Q)) ∧ (((gI h a2 8) = 11 → (zX mX4_readMark 194 [.ref t, .int (gI h a2 8), .float 0, .float 0, .float 0] [] h Q)) ∧ (((gI h a2 8) = 13 → (zX mX4_readMark 194 [.ref t, .int (gI h a2 8), .float 0, .float 0, .float 0] [] h Q)) ∧ (((gI h a2 8) = 20 → (zX mX4_readMark 72 [.ref t, .float 0, .float 0, .float 0, .float 0] [] h Q)) ∧ (¬ (gI h a2 8) = 9 → ¬ (gI h a2 8) = 10 → ¬ (gI h a2 8) = 11 → ¬ (gI h a2 8) = 13 → ¬ (gI h a2 8) = 20 → (zX mX4_readMark 250 [.ref t, .float 0, .float 0, .float 0, .float 0] [] h Q)))))))))) : zX mX4_readMark 0 [.ref t, .float 0, .float 0, .float 0, .float 0] [] h Q := by
  obtain ⟨g1, H⟩ := H
  obtain ⟨a2, ea2, H⟩ := H
  obtain ⟨g3, H⟩ := H
  refine zX_seg (pc' := (ztt 9 241 9 20 [114, 143, 185, 241, 185, 241, 241, 241, 241, 241, 241, 63] (gI h a2 8))) (L' := [.ref t, .int (gI h a2 8), .float 0, .float 0, .float 0]) (st' := []) (h2 := h) rfl rfl (fun C Cr hc kk => x_aload_n C (v := .ref t) rfl rfl dX4_readMark_0 (f_getR1 C lX4_12 g1 rfl ea2 dX4_readMark_1 (f_getIN C lX4_41 g3 rfl dX4_readMark_4 (x_istore_n C (by decide) dX4_readMark_7 (x_iload_n C rfl dX4_readMark_8 (f_table C ⟨⟨by decide, by decide⟩, by decide⟩ dX4_readMark_9 (kk))))))) ?_
  by_cases z4 : (gI h a2 8) = 9
  · replace H := H.1 z4
    rw [show (ztt 9 241 9 20 [114, 143, 185, 241, 185, 241, 241, 241, 241, 241, 241, 63] (gI h a2 8)) = 123 from by rw [z4]; decide]
    exact zX_wk (wkK (wkK (wkD (wkD (wkD wkN))))) H
  · replace H := H.2
    by_cases z5 : (gI h a2 8) = 10
    · replace H := H.1 z5
      rw [show (ztt 9 241 9 20 [114, 143, 185, 241, 185, 241, 241, 241, 241, 241, 241, 63] (gI h a2 8)) = 152 from by rw [z5]; decide]
      exact zX_wk (wkK (wkK (wkD (wkD (wkD wkN))))) H
    · replace H := H.2
      by_cases z6 : (gI h a2 8) = 11
      · replace H := H.1 z6
        rw [show (ztt 9 241 9 20 [114, 143, 185, 241, 185, 241, 241, 241, 241, 241, 241, 63] (gI h a2 8)) = 194 from by rw [z6]; decide]
        exact zX_wk (wkK (wkK (wkD (wkD (wkD wkN))))) H
      · replace H := H.2
        by_cases z7 : (gI h a2 8) = 13
        · replace H := H.1 z7
          rw [show (ztt 9 241 9 20 [114, 143, 185, 241, 185, 241, 241, 241, 241, 241, 241, 63] (gI h a2 8)) = 194 from by rw [z7]; decide]
          exact zX_wk (wkK (wkK (wkD (wkD (wkD wkN))))) H
        · replace H := H.2
          by_cases z8 : (gI h a2 8) = 20
          · replace H := H.1 z8
            rw [show (ztt 9 241 9 20 [114, 143, 185, 241, 185, 241, 241, 241, 241, 241, 241, 63] (gI h a2 8)) = 72 from by rw [z8]; decide]
            exact zX_wk (wkK (wkD (wkD (wkD (wkD wkN))))) H
          · replace H := H.2
            rw [show (ztt 9 241 9 20 [114, 143, 185, 241, 185, 241, 241, 241, 241, 241, 241, 63] (gI h a2 8)) = 250 from (ztt_d [9, 10, 11, 13, 20] (by decide) (by decide) (List.forall_mem_cons.mpr ⟨z4, (List.forall_mem_cons.mpr ⟨z5, (List.forall_mem_cons.mpr ⟨z6, (List.forall_mem_cons.mpr ⟨z7, (List.forall_mem_cons.mpr ⟨z8, (fun _ h => absurd h List.not_mem_nil)⟩)⟩)⟩)⟩)⟩)).trans (by decide)]
            replace H := H z4 z5 z6 z7 z8
            exact zX_wk (wkK (wkD (wkD (wkD (wkD wkN))))) H
set_option maxHeartbeats 20000000 in
theorem bX4_readMark_72 (l0 : Nat) (h : zH) (Q : Option Value → zH → Prop) (H : oK h l0 4 ∧ (zC mX4_countUnit [.ref l0] h (fun r0 h2 => ∃ x3 : Int32, r0 = some (.int x3) ∧ ((x3 = 0 → (zX mX4_readMark 102 [.ref l0, .float 0, .float 0, .float 0, .float 0] [.int (-1 : Int32)] h2 Q)) ∧ (¬ (x3 = 0) → (oK h2 l0 4 ∧ (∃ a6 : Nat, gR h2 l0 3 = some a6 ∧ (oK h2 a6 10 ∧ (∃ a8 : Nat, gR h2 a6 0 = some a8 ∧ (zC mX4_takeKnown [.ref l0, .ref a8, .int (gI h2 a6 6), .int (0 : Int32)] h2 (fun r0 h9 => ∃ x10 : Int32, r0 = some (.int x10) ∧ (zX mX4_readMark 102 [.ref l0, .float 0, .float 0, .float 0, .float 0] [.int x10] h9 Q)))))))))))) : zX mX4_readMark 72 [.ref l0, .float 0, .float 0, .float 0, .float 0] [] h Q := by
  refine zX_seg (pc' := 73) (L' := [.ref l0, .float 0, .float 0, .float 0, .float 0]) (st' := [.ref l0]) (h2 := h) rfl rfl (fun C Cr hc kk => x_aload_n C (v := .ref l0) rfl rfl dX4_readMark_72 (kk)) ?_
  obtain ⟨g1, H⟩ := H
  refine zX_call (as := [.ref l0]) (st := []) (fun C hM hc kk => f_callV C [] hM kX4_countUnit vX4_countUnit lX4_193 ⟨by decide, by decide⟩ (rfl : vwCl[4]? = some (RX4, TX4, 14)) g1 rfl hc (Nat.le_of_ble_eq_true rfl) rfl dX4_readMark_73 kk) (zC.mono H ?_)
  rintro r0 h2 ⟨x3, rfl, H⟩
  show zX mX4_readMark 76 [.ref l0, .float 0, .float 0, .float 0, .float 0] [.int x3] h2 Q
  refine zX_br (p1 := 101) (p2 := 79) (st' := []) (x3 = 0) (fun C kt kf => x_if_eq C 101 dX4_readMark_76 (by decide) kt kf) (fun q4 => ?_) (fun q4 => ?_)
  · replace H := H.1 q4
    refine zX_seg (pc' := 102) (L' := [.ref l0, .float 0, .float 0, .float 0, .float 0]) (st' := [.int (-1 : Int32)]) (h2 := h2) rfl rfl (fun C Cr hc kk => x_iconst C (-1 : Int32) (by decide) dX4_readMark_101 (kk)) ?_
    exact zX_wk (wkK (wkD (wkD (wkD (wkD wkN))))) H
  · replace H := H.2 q4
    obtain ⟨g5, H⟩ := H
    obtain ⟨a6, ea6, H⟩ := H
    obtain ⟨g7, H⟩ := H
    obtain ⟨a8, ea8, H⟩ := H
    refine zX_seg (pc' := 95) (L' := [.ref l0, .float 0, .float 0, .float 0, .float 0]) (st' := [.int (0 : Int32), .int (gI h2 a6 6), .ref a8, .ref l0]) (h2 := h2) rfl rfl (fun C Cr hc kk => x_aload_n C (v := .ref l0) rfl rfl dX4_readMark_79 (x_aload_n C (v := .ref l0) rfl rfl dX4_readMark_80 (f_getR1 C lX4_60 g5 rfl ea6 dX4_readMark_81 (f_getR1N C lX4_139 g7 rfl ea8 dX4_readMark_84 (x_aload_n C (v := .ref l0) rfl rfl dX4_readMark_87 (f_getR1 C lX4_60 g5 rfl ea6 dX4_readMark_88 (f_getIN C lX4_136 g7 rfl dX4_readMark_91 (x_iconst C (0 : Int32) (by decide) dX4_readMark_94 (kk))))))))) ?_
    refine zX_call (as := [.ref l0, .ref a8, .int (gI h2 a6 6), .int (0 : Int32)]) (st := []) (fun C hM hc kk => f_callV C [.ref a8, .int (gI h2 a6 6), .int (0 : Int32)] hM kX4_takeKnown vX4_takeKnown lX4_159 ⟨by decide, by decide⟩ (rfl : vwCl[4]? = some (RX4, TX4, 14)) g5 rfl hc (Nat.le_of_ble_eq_true rfl) rfl dX4_readMark_95 kk) (zC.mono H ?_)
    rintro r0 h9 ⟨x10, rfl, H⟩
    show zX mX4_readMark 98 [.ref l0, .float 0, .float 0, .float 0, .float 0] [.int x10] h9 Q
    refine zX_seg (pc' := 102) (L' := [.ref l0, .float 0, .float 0, .float 0, .float 0]) (st' := [.int x10]) (h2 := h9) rfl rfl (fun C Cr hc kk => x_goto C 102 dX4_readMark_98 (by decide) (kk)) ?_
    exact zX_wk (wkK (wkD (wkD (wkD (wkD wkN))))) H
set_option maxHeartbeats 20000000 in
theorem bX4_readMark_102 (l0 : Nat) (s0 : Int32) (h : zH) (Q : Option Value → zH → Prop) (H : oK h l0 4 ∧ (zC mX4_addStep [.ref l0, .int (12 : Int32), .int (0 : Int32), .int (s0 + (1 : Int32))] h (fun r0 h2 => r0 = none ∧ ((s0 < 0 → (Q (some (.int (0 : Int32))) h2)) ∧ (¬ (s0 < 0) → (Q (some (.int (1 : Int32))) h2)))))) : zX mX4_readMark 102 [.ref l0, .float 0, .float 0, .float 0, .float 0] [.int s0] h Q := by
  refine zX_seg (pc' := 110) (L' := [.ref l0, .float 0, .int s0, .float 0, .float 0]) (st' := [.int (s0 + (1 : Int32)), .int (0 : Int32), .int (12 : Int32), .ref l0]) (h2 := h) rfl rfl (fun C Cr hc kk => x_istore_n C (by decide) dX4_readMark_102 (x_aload_n C (v := .ref l0) rfl rfl dX4_readMark_103 (x_bipush C (12 : Int32) (by decide) dX4_readMark_104 (x_iconst C (0 : Int32) (by decide) dX4_readMark_106 (x_iload_n C rfl dX4_readMark_107 (x_iconst C (1 : Int32) (by decide) dX4_readMark_108 (x_iadd C dX4_readMark_109 (kk)))))))) ?_
  obtain ⟨g1, H⟩ := H
  refine zX_call (as := [.ref l0, .int (12 : Int32), .int (0 : Int32), .int (s0 + (1 : Int32))]) (st := []) (fun C hM hc kk => f_callV C [.int (12 : Int32), .int (0 : Int32), .int (s0 + (1 : Int32))] hM kX4_addStep vX4_addStep lX4_196 ⟨by decide, by decide⟩ (rfl : vwCl[4]? = some (RX4, TX4, 14)) g1 rfl hc (Nat.le_of_ble_eq_true rfl) rfl dX4_readMark_110 kk) (zC.mono H ?_)
  rintro r0 h2 ⟨rfl, H⟩
  show zX mX4_readMark 113 [.ref l0, .float 0, .int s0, .float 0, .float 0] [] h2 Q
  refine zX_seg (pc' := 114) (L' := [.ref l0, .float 0, .int s0, .float 0, .float 0]) (st' := [.int s0]) (h2 := h2) rfl rfl (fun C Cr hc kk => x_iload_n C rfl dX4_readMark_113 (kk)) ?_
  refine zX_br (p1 := 121) (p2 := 117) (st' := []) (s0 < 0) (fun C kt kf => x_if_lt C 121 dX4_readMark_114 (by decide) kt kf) (fun q3 => ?_) (fun q3 => ?_)
  · replace H := H.1 q3
    refine zX_seg (pc' := 122) (L' := [.ref l0, .float 0, .int s0, .float 0, .float 0]) (st' := [.int (0 : Int32)]) (h2 := h2) rfl rfl (fun C Cr hc kk => x_iconst C (0 : Int32) (by decide) dX4_readMark_121 (kk)) ?_
    exact zX_ret (some (.int (0 : Int32))) (fun C Cr hc => x_iret C Cr rfl rfl hc dX4_readMark_122 ⟨rfl, rfl⟩) H
  · replace H := H.2 q3
    refine zX_seg (pc' := 122) (L' := [.ref l0, .float 0, .int s0, .float 0, .float 0]) (st' := [.int (1 : Int32)]) (h2 := h2) rfl rfl (fun C Cr hc kk => x_iconst C (1 : Int32) (by decide) dX4_readMark_117 (x_goto C 122 dX4_readMark_118 (by decide) (kk))) ?_
    exact zX_ret (some (.int (1 : Int32))) (fun C Cr hc => x_iret C Cr rfl rfl hc dX4_readMark_122 ⟨rfl, rfl⟩) H
set_option maxHeartbeats 20000000 in
theorem bX4_readMark_123 (l0 : Nat) (l1 : Int32) (h : zH) (Q : Option Value → zH → Prop) (H : oK h l0 4 ∧ (zC mX4_addStep [.ref l0, .int (12 : Int32), .int (0 : Int32), .int (0 : Int32)] h (fun r0 h2 => r0 = none ∧ (oK h2 l0 4 ∧ (zC mX4_countUnit [.ref l0] h2 (fun r0 h4 => ∃ x5 : Int32, r0 = some (.int x5) ∧ ((x5 = 0 → (Q (some (.int (0 : Int32))) h4)) ∧ (¬ (x5 = 0) → (oK h4 l0 4 ∧ (zC mX4_take [.ref l0, .int l1] h4 (fun r0 h8 => ∃ x9 : Int32, r0 = some (.int x9) ∧ ((x9 = 0 → (Q (some (.int (0 : Int32))) h8)) ∧ (¬ (x9 = 0) → (Q (some (.int (1 : Int32))) h8)))))))))))))) : zX mX4_readMark 123 [.ref l0, .int l1, .float 0, .float 0, .float 0] [] h Q := by
  refine zX_seg (pc' := 128) (L' := [.ref l0, .int l1, .float 0, .float 0, .float 0]) (st' := [.int (0 : Int32), .int (0 : Int32), .int (12 : Int32), .ref l0]) (h2 := h) rfl rfl (fun C Cr hc kk => x_aload_n C (v := .ref l0) rfl rfl dX4_readMark_123 (x_bipush C (12 : Int32) (by decide) dX4_readMark_124 (x_iconst C (0 : Int32) (by decide) dX4_readMark_126 (x_iconst C (0 : Int32) (by decide) dX4_readMark_127 (kk))))) ?_
  obtain ⟨g1, H⟩ := H
  refine zX_call (as := [.ref l0, .int (12 : Int32), .int (0 : Int32), .int (0 : Int32)]) (st := []) (fun C hM hc kk => f_callV C [.int (12 : Int32), .int (0 : Int32), .int (0 : Int32)] hM kX4_addStep vX4_addStep lX4_196 ⟨by decide, by decide⟩ (rfl : vwCl[4]? = some (RX4, TX4, 14)) g1 rfl hc (Nat.le_of_ble_eq_true rfl) rfl dX4_readMark_128 kk) (zC.mono H ?_)
  rintro r0 h2 ⟨rfl, H⟩
  show zX mX4_readMark 131 [.ref l0, .int l1, .float 0, .float 0, .float 0] [] h2 Q
  refine zX_seg (pc' := 132) (L' := [.ref l0, .int l1, .float 0, .float 0, .float 0]) (st' := [.ref l0]) (h2 := h2) rfl rfl (fun C Cr hc kk => x_aload_n C (v := .ref l0) rfl rfl dX4_readMark_131 (kk)) ?_
  obtain ⟨g3, H⟩ := H
  refine zX_call (as := [.ref l0]) (st := []) (fun C hM hc kk => f_callV C [] hM kX4_countUnit vX4_countUnit lX4_193 ⟨by decide, by decide⟩ (rfl : vwCl[4]? = some (RX4, TX4, 14)) g3 rfl hc (Nat.le_of_ble_eq_true rfl) rfl dX4_readMark_132 kk) (zC.mono H ?_)
  rintro r0 h4 ⟨x5, rfl, H⟩
  show zX mX4_readMark 135 [.ref l0, .int l1, .float 0, .float 0, .float 0] [.int x5] h4 Q
  refine zX_br (p1 := 150) (p2 := 138) (st' := []) (x5 = 0) (fun C kt kf => x_if_eq C 150 dX4_readMark_135 (by decide) kt kf) (fun q6 => ?_) (fun q6 => ?_)
  · replace H := H.1 q6
    refine zX_seg (pc' := 151) (L' := [.ref l0, .int l1, .float 0, .float 0, .float 0]) (st' := [.int (0 : Int32)]) (h2 := h4) rfl rfl (fun C Cr hc kk => x_iconst C (0 : Int32) (by decide) dX4_readMark_150 (kk)) ?_
    exact zX_ret (some (.int (0 : Int32))) (fun C Cr hc => x_iret C Cr rfl rfl hc dX4_readMark_151 ⟨rfl, rfl⟩) H
  · replace H := H.2 q6
    refine zX_seg (pc' := 140) (L' := [.ref l0, .int l1, .float 0, .float 0, .float 0]) (st' := [.int l1, .ref l0]) (h2 := h4) rfl rfl (fun C Cr hc kk => x_aload_n C (v := .ref l0) rfl rfl dX4_readMark_138 (x_iload_n C rfl dX4_readMark_139 (kk))) ?_
    obtain ⟨g7, H⟩ := H
    refine zX_call (as := [.ref l0, .int l1]) (st := []) (fun C hM hc kk => f_callV C [.int l1] hM kX4_take vX4_take lX4_79 ⟨by decide, by decide⟩ (rfl : vwCl[4]? = some (RX4, TX4, 14)) g7 rfl hc (Nat.le_of_ble_eq_true rfl) rfl dX4_readMark_140 kk) (zC.mono H ?_)
    rintro r0 h8 ⟨x9, rfl, H⟩
    show zX mX4_readMark 143 [.ref l0, .int l1, .float 0, .float 0, .float 0] [.int x9] h8 Q
    refine zX_br (p1 := 150) (p2 := 146) (st' := []) (x9 = 0) (fun C kt kf => x_if_eq C 150 dX4_readMark_143 (by decide) kt kf) (fun q10 => ?_) (fun q10 => ?_)
    · replace H := H.1 q10
      refine zX_seg (pc' := 151) (L' := [.ref l0, .int l1, .float 0, .float 0, .float 0]) (st' := [.int (0 : Int32)]) (h2 := h8) rfl rfl (fun C Cr hc kk => x_iconst C (0 : Int32) (by decide) dX4_readMark_150 (kk)) ?_
      exact zX_ret (some (.int (0 : Int32))) (fun C Cr hc => x_iret C Cr rfl rfl hc dX4_readMark_151 ⟨rfl, rfl⟩) H
    · replace H := H.2 q10
      refine zX_seg (pc' := 151) (L' := [.ref l0, .int l1, .float 0, .float 0, .float 0]) (st' := [.int (1 : Int32)]) (h2 := h8) rfl rfl (fun C Cr hc kk => x_iconst C (1 : Int32) (by decide) dX4_readMark_146 (x_goto C 151 dX4_readMark_147 (by decide) (kk))) ?_
      exact zX_ret (some (.int (1 : Int32))) (fun C Cr hc => x_iret C Cr rfl rfl hc dX4_readMark_151 ⟨rfl, rfl⟩) H
set_option maxHeartbeats 20000000 in
theorem bX4_readMark_152 (l0 : Nat) (l1 : Int32) (h : zH) (Q : Option Value → zH → Prop) (H : oK h l0 4 ∧ (zC mX4_countUnit [.ref l0] h (fun r0 h2 => ∃ x3 : Int32, r0 = some (.int x3) ∧ ((x3 = 0 → (zX mX4_readMark 174 [.ref l0, .float 0, .float 0, .float 0, .float 0] [] h2 Q)) ∧ (¬ (x3 = 0) → (oK h2 l0 4 ∧ (zC mX4_take [.ref l0, .int l1] h2 (fun r0 h6 => ∃ x7 : Int32, r0 = some (.int x7) ∧ ((x7 = 0 → (zX mX4_readMark 174 [.ref l0, .float 0, .float 0, .float 0, .float 0] [] h6 Q)) ∧ (¬ (x7 = 0) → (oK h6 l0 4 ∧ (zC mX4_takeOther [.ref l0] h6 (fun r0 h10 => ∃ x11 : Int32, r0 = some (.int x11) ∧ (zX mX4_readMark 175 [.ref l0, .float 0, .float 0, .float 0, .float 0] [.int x11] h10 Q)))))))))))))) : zX mX4_readMark 152 [.ref l0, .int l1, .float 0, .float 0, .float 0] [] h Q := by
  refine zX_seg (pc' := 153) (L' := [.ref l0, .int l1, .float 0, .float 0, .float 0]) (st' := [.ref l0]) (h2 := h) rfl rfl (fun C Cr hc kk => x_aload_n C (v := .ref l0) rfl rfl dX4_readMark_152 (kk)) ?_
  obtain ⟨g1, H⟩ := H
  refine zX_call (as := [.ref l0]) (st := []) (fun C hM hc kk => f_callV C [] hM kX4_countUnit vX4_countUnit lX4_193 ⟨by decide, by decide⟩ (rfl : vwCl[4]? = some (RX4, TX4, 14)) g1 rfl hc (Nat.le_of_ble_eq_true rfl) rfl dX4_readMark_153 kk) (zC.mono H ?_)
  rintro r0 h2 ⟨x3, rfl, H⟩
  show zX mX4_readMark 156 [.ref l0, .int l1, .float 0, .float 0, .float 0] [.int x3] h2 Q
  refine zX_br (p1 := 174) (p2 := 159) (st' := []) (x3 = 0) (fun C kt kf => x_if_eq C 174 dX4_readMark_156 (by decide) kt kf) (fun q4 => ?_) (fun q4 => ?_)
  · replace H := H.1 q4
    exact zX_wk (wkK (wkD (wkD (wkD (wkD wkN))))) H
  · replace H := H.2 q4
    refine zX_seg (pc' := 161) (L' := [.ref l0, .int l1, .float 0, .float 0, .float 0]) (st' := [.int l1, .ref l0]) (h2 := h2) rfl rfl (fun C Cr hc kk => x_aload_n C (v := .ref l0) rfl rfl dX4_readMark_159 (x_iload_n C rfl dX4_readMark_160 (kk))) ?_
    obtain ⟨g5, H⟩ := H
    refine zX_call (as := [.ref l0, .int l1]) (st := []) (fun C hM hc kk => f_callV C [.int l1] hM kX4_take vX4_take lX4_79 ⟨by decide, by decide⟩ (rfl : vwCl[4]? = some (RX4, TX4, 14)) g5 rfl hc (Nat.le_of_ble_eq_true rfl) rfl dX4_readMark_161 kk) (zC.mono H ?_)
    rintro r0 h6 ⟨x7, rfl, H⟩
    show zX mX4_readMark 164 [.ref l0, .int l1, .float 0, .float 0, .float 0] [.int x7] h6 Q
    refine zX_br (p1 := 174) (p2 := 167) (st' := []) (x7 = 0) (fun C kt kf => x_if_eq C 174 dX4_readMark_164 (by decide) kt kf) (fun q8 => ?_) (fun q8 => ?_)
    · replace H := H.1 q8
      exact zX_wk (wkK (wkD (wkD (wkD (wkD wkN))))) H
    · replace H := H.2 q8
      refine zX_seg (pc' := 168) (L' := [.ref l0, .int l1, .float 0, .float 0, .float 0]) (st' := [.ref l0]) (h2 := h6) rfl rfl (fun C Cr hc kk => x_aload_n C (v := .ref l0) rfl rfl dX4_readMark_167 (kk)) ?_
      obtain ⟨g9, H⟩ := H
      refine zX_call (as := [.ref l0]) (st := []) (fun C hM hc kk => f_callV C [] hM kX4_takeOther vX4_takeOther lX4_200 ⟨by decide, by decide⟩ (rfl : vwCl[4]? = some (RX4, TX4, 14)) g9 rfl hc (Nat.le_of_ble_eq_true rfl) rfl dX4_readMark_168 kk) (zC.mono H ?_)
      rintro r0 h10 ⟨x11, rfl, H⟩
      show zX mX4_readMark 171 [.ref l0, .int l1, .float 0, .float 0, .float 0] [.int x11] h10 Q
      refine zX_seg (pc' := 175) (L' := [.ref l0, .int l1, .float 0, .float 0, .float 0]) (st' := [.int x11]) (h2 := h10) rfl rfl (fun C Cr hc kk => x_goto C 175 dX4_readMark_171 (by decide) (kk)) ?_
      exact zX_wk (wkK (wkD (wkD (wkD (wkD wkN))))) H
set_option maxHeartbeats 20000000 in
theorem bX4_readMark_174 (l0 : Nat) (h : zH) (Q : Option Value → zH → Prop) (H : zX mX4_readMark 175 [.ref l0, .float 0, .float 0, .float 0, .float 0] [.int (-1 : Int32)] h Q) : zX mX4_readMark 174 [.ref l0, .float 0, .float 0, .float 0, .float 0] [] h Q := by
  refine zX_seg (pc' := 175) (L' := [.ref l0, .float 0, .float 0, .float 0, .float 0]) (st' := [.int (-1 : Int32)]) (h2 := h) rfl rfl (fun C Cr hc kk => x_iconst C (-1 : Int32) (by decide) dX4_readMark_174 (kk)) ?_
  exact zX_wk (wkK (wkD (wkD (wkD (wkD wkN))))) H
set_option maxHeartbeats 20000000 in
theorem bX4_readMark_175 (l0 : Nat) (s0 : Int32) (h : zH) (Q : Option Value → zH → Prop) (H : oK h l0 4 ∧ (zC mX4_addStep [.ref l0, .int (13 : Int32), .int (0 : Int32), .int s0] h (fun r0 h2 => r0 = none ∧ ((s0 < 0 → (Q (some (.int (0 : Int32))) h2)) ∧ (¬ (s0 < 0) → (Q (some (.int (1 : Int32))) h2)))))) : zX mX4_readMark 175 [.ref l0, .float 0, .float 0, .float 0, .float 0] [.int s0] h Q := by
  refine zX_seg (pc' := 181) (L' := [.ref l0, .float 0, .float 0, .int s0, .float 0]) (st' := [.int s0, .int (0 : Int32), .int (13 : Int32), .ref l0]) (h2 := h) rfl rfl (fun C Cr hc kk => x_istore_n C (by decide) dX4_readMark_175 (x_aload_n C (v := .ref l0) rfl rfl dX4_readMark_176 (x_bipush C (13 : Int32) (by decide) dX4_readMark_177 (x_iconst C (0 : Int32) (by decide) dX4_readMark_179 (x_iload_n C rfl dX4_readMark_180 (kk)))))) ?_
  obtain ⟨g1, H⟩ := H
  refine zX_call (as := [.ref l0, .int (13 : Int32), .int (0 : Int32), .int s0]) (st := []) (fun C hM hc kk => f_callV C [.int (13 : Int32), .int (0 : Int32), .int s0] hM kX4_addStep vX4_addStep lX4_196 ⟨by decide, by decide⟩ (rfl : vwCl[4]? = some (RX4, TX4, 14)) g1 rfl hc (Nat.le_of_ble_eq_true rfl) rfl dX4_readMark_181 kk) (zC.mono H ?_)
  rintro r0 h2 ⟨rfl, H⟩
  show zX mX4_readMark 184 [.ref l0, .float 0, .float 0, .int s0, .float 0] [] h2 Q
  refine zX_seg (pc' := 185) (L' := [.ref l0, .float 0, .float 0, .int s0, .float 0]) (st' := [.int s0]) (h2 := h2) rfl rfl (fun C Cr hc kk => x_iload_n C rfl dX4_readMark_184 (kk)) ?_
  refine zX_br (p1 := 192) (p2 := 188) (st' := []) (s0 < 0) (fun C kt kf => x_if_lt C 192 dX4_readMark_185 (by decide) kt kf) (fun q3 => ?_) (fun q3 => ?_)
  · replace H := H.1 q3
    refine zX_seg (pc' := 193) (L' := [.ref l0, .float 0, .float 0, .int s0, .float 0]) (st' := [.int (0 : Int32)]) (h2 := h2) rfl rfl (fun C Cr hc kk => x_iconst C (0 : Int32) (by decide) dX4_readMark_192 (kk)) ?_
    exact zX_ret (some (.int (0 : Int32))) (fun C Cr hc => x_iret C Cr rfl rfl hc dX4_readMark_193 ⟨rfl, rfl⟩) H
  · replace H := H.2 q3
    refine zX_seg (pc' := 193) (L' := [.ref l0, .float 0, .float 0, .int s0, .float 0]) (st' := [.int (1 : Int32)]) (h2 := h2) rfl rfl (fun C Cr hc kk => x_iconst C (1 : Int32) (by decide) dX4_readMark_188 (x_goto C 193 dX4_readMark_189 (by decide) (kk))) ?_
    exact zX_ret (some (.int (1 : Int32))) (fun C Cr hc => x_iret C Cr rfl rfl hc dX4_readMark_193 ⟨rfl, rfl⟩) H
set_option maxHeartbeats 20000000 in
theorem bX4_readMark_194 (l0 : Nat) (l1 : Int32) (h : zH) (Q : Option Value → zH → Prop) (H : oK h l0 4 ∧ (zC mX4_countUnit [.ref l0] h (fun r0 h2 => ∃ x3 : Int32, r0 = some (.int x3) ∧ ((x3 = 0 → (zX mX4_readMark 216 [.ref l0, .int l1, .float 0, .float 0, .float 0] [] h2 Q)) ∧ (¬ (x3 = 0) → (oK h2 l0 4 ∧ (zC mX4_take [.ref l0, .int l1] h2 (fun r0 h6 => ∃ x7 : Int32, r0 = some (.int x7) ∧ ((x7 = 0 → (zX mX4_readMark 216 [.ref l0, .int l1, .float 0, .float 0, .float 0] [] h6 Q)) ∧ (¬ (x7 = 0) → (oK h6 l0 4 ∧ (zC mX4_takeStreet [.ref l0] h6 (fun r0 h10 => ∃ x11 : Int32, r0 = some (.int x11) ∧ (zX mX4_readMark 217 [.ref l0, .int l1, .float 0, .float 0, .float 0] [.int x11] h10 Q)))))))))))))) : zX mX4_readMark 194 [.ref l0, .int l1, .float 0, .float 0, .float 0] [] h Q := by
  refine zX_seg (pc' := 195) (L' := [.ref l0, .int l1, .float 0, .float 0, .float 0]) (st' := [.ref l0]) (h2 := h) rfl rfl (fun C Cr hc kk => x_aload_n C (v := .ref l0) rfl rfl dX4_readMark_194 (kk)) ?_
  obtain ⟨g1, H⟩ := H
  refine zX_call (as := [.ref l0]) (st := []) (fun C hM hc kk => f_callV C [] hM kX4_countUnit vX4_countUnit lX4_193 ⟨by decide, by decide⟩ (rfl : vwCl[4]? = some (RX4, TX4, 14)) g1 rfl hc (Nat.le_of_ble_eq_true rfl) rfl dX4_readMark_195 kk) (zC.mono H ?_)
  rintro r0 h2 ⟨x3, rfl, H⟩
  show zX mX4_readMark 198 [.ref l0, .int l1, .float 0, .float 0, .float 0] [.int x3] h2 Q
  refine zX_br (p1 := 216) (p2 := 201) (st' := []) (x3 = 0) (fun C kt kf => x_if_eq C 216 dX4_readMark_198 (by decide) kt kf) (fun q4 => ?_) (fun q4 => ?_)
  · replace H := H.1 q4
    exact zX_wk (wkK (wkK (wkD (wkD (wkD wkN))))) H
  · replace H := H.2 q4
    refine zX_seg (pc' := 203) (L' := [.ref l0, .int l1, .float 0, .float 0, .float 0]) (st' := [.int l1, .ref l0]) (h2 := h2) rfl rfl (fun C Cr hc kk => x_aload_n C (v := .ref l0) rfl rfl dX4_readMark_201 (x_iload_n C rfl dX4_readMark_202 (kk))) ?_
    obtain ⟨g5, H⟩ := H
    refine zX_call (as := [.ref l0, .int l1]) (st := []) (fun C hM hc kk => f_callV C [.int l1] hM kX4_take vX4_take lX4_79 ⟨by decide, by decide⟩ (rfl : vwCl[4]? = some (RX4, TX4, 14)) g5 rfl hc (Nat.le_of_ble_eq_true rfl) rfl dX4_readMark_203 kk) (zC.mono H ?_)
    rintro r0 h6 ⟨x7, rfl, H⟩
    show zX mX4_readMark 206 [.ref l0, .int l1, .float 0, .float 0, .float 0] [.int x7] h6 Q
    refine zX_br (p1 := 216) (p2 := 209) (st' := []) (x7 = 0) (fun C kt kf => x_if_eq C 216 dX4_readMark_206 (by decide) kt kf) (fun q8 => ?_) (fun q8 => ?_)
    · replace H := H.1 q8
      exact zX_wk (wkK (wkK (wkD (wkD (wkD wkN))))) H
    · replace H := H.2 q8
      refine zX_seg (pc' := 210) (L' := [.ref l0, .int l1, .float 0, .float 0, .float 0]) (st' := [.ref l0]) (h2 := h6) rfl rfl (fun C Cr hc kk => x_aload_n C (v := .ref l0) rfl rfl dX4_readMark_209 (kk)) ?_
      obtain ⟨g9, H⟩ := H
      refine zX_call (as := [.ref l0]) (st := []) (fun C hM hc kk => f_callV C [] hM kX4_takeStreet vX4_takeStreet lX4_203 ⟨by decide, by decide⟩ (rfl : vwCl[4]? = some (RX4, TX4, 14)) g9 rfl hc (Nat.le_of_ble_eq_true rfl) rfl dX4_readMark_210 kk) (zC.mono H ?_)
      rintro r0 h10 ⟨x11, rfl, H⟩
      show zX mX4_readMark 213 [.ref l0, .int l1, .float 0, .float 0, .float 0] [.int x11] h10 Q
      refine zX_seg (pc' := 217) (L' := [.ref l0, .int l1, .float 0, .float 0, .float 0]) (st' := [.int x11]) (h2 := h10) rfl rfl (fun C Cr hc kk => x_goto C 217 dX4_readMark_213 (by decide) (kk)) ?_
      exact zX_wk (wkK (wkK (wkD (wkD (wkD wkN))))) H
set_option maxHeartbeats 20000000 in
theorem bX4_readMark_216 (l0 : Nat) (l1 : Int32) (h : zH) (Q : Option Value → zH → Prop) (H : zX mX4_readMark 217 [.ref l0, .int l1, .float 0, .float 0, .float 0] [.int (-1 : Int32)] h Q) : zX mX4_readMark 216 [.ref l0, .int l1, .float 0, .float 0, .float 0] [] h Q := by
  refine zX_seg (pc' := 217) (L' := [.ref l0, .int l1, .float 0, .float 0, .float 0]) (st' := [.int (-1 : Int32)]) (h2 := h) rfl rfl (fun C Cr hc kk => x_iconst C (-1 : Int32) (by decide) dX4_readMark_216 (kk)) ?_
  exact zX_wk (wkK (wkK (wkD (wkD (wkD wkN))))) H
set_option maxHeartbeats 20000000 in
theorem bX4_readMark_217 (l0 : Nat) (l1 : Int32) (s0 : Int32) (h : zH) (Q : Option Value → zH → Prop) (H : (l1 = (11 : Int32) → (oK h l0 4 ∧ (zC mX4_addStep [.ref l0, .int (14 : Int32), .int s0, .int (0 : Int32)] h (fun r0 h3 => r0 = none ∧ ((s0 < 0 → (Q (some (.int (0 : Int32))) h3)) ∧ (¬ (s0 < 0) → (Q (some (.int (1 : Int32))) h3))))))) ∧ (¬ (l1 = (11 : Int32)) → (oK h l0 4 ∧ (zC mX4_addStep [.ref l0, .int (15 : Int32), .int s0, .int (0 : Int32)] h (fun r0 h6 => r0 = none ∧ ((s0 < 0 → (Q (some (.int (0 : Int32))) h6)) ∧ (¬ (s0 < 0) → (Q (some (.int (1 : Int32))) h6)))))))) : zX mX4_readMark 217 [.ref l0, .int l1, .float 0, .float 0, .float 0] [.int s0] h Q := by
  refine zX_seg (pc' := 223) (L' := [.ref l0, .int l1, .float 0, .float 0, .int s0]) (st' := [.int (11 : Int32), .int l1, .ref l0]) (h2 := h) rfl rfl (fun C Cr hc kk => x_istore C (by decide) dX4_readMark_217 (x_aload_n C (v := .ref l0) rfl rfl dX4_readMark_219 (x_iload_n C rfl dX4_readMark_220 (x_bipush C (11 : Int32) (by decide) dX4_readMark_221 (kk))))) ?_
  refine zX_br (p1 := 226) (p2 := 231) (st' := [.ref l0]) (l1 = (11 : Int32)) (fun C kt kf => x_icmp_ne C 231 dX4_readMark_223 (by decide) kf kt) (fun q1 => ?_) (fun q1 => ?_)
  · replace H := H.1 q1
    refine zX_seg (pc' := 236) (L' := [.ref l0, .int l1, .float 0, .float 0, .int s0]) (st' := [.int (0 : Int32), .int s0, .int (14 : Int32), .ref l0]) (h2 := h) rfl rfl (fun C Cr hc kk => x_bipush C (14 : Int32) (by decide) dX4_readMark_226 (x_goto C 233 dX4_readMark_228 (by decide) (x_iload C rfl dX4_readMark_233 (x_iconst C (0 : Int32) (by decide) dX4_readMark_235 (kk))))) ?_
    obtain ⟨g2, H⟩ := H
    refine zX_call (as := [.ref l0, .int (14 : Int32), .int s0, .int (0 : Int32)]) (st := []) (fun C hM hc kk => f_callV C [.int (14 : Int32), .int s0, .int (0 : Int32)] hM kX4_addStep vX4_addStep lX4_196 ⟨by decide, by decide⟩ (rfl : vwCl[4]? = some (RX4, TX4, 14)) g2 rfl hc (Nat.le_of_ble_eq_true rfl) rfl dX4_readMark_236 kk) (zC.mono H ?_)
    rintro r0 h3 ⟨rfl, H⟩
    show zX mX4_readMark 239 [.ref l0, .int l1, .float 0, .float 0, .int s0] [] h3 Q
    refine zX_seg (pc' := 241) (L' := [.ref l0, .int l1, .float 0, .float 0, .int s0]) (st' := [.int s0]) (h2 := h3) rfl rfl (fun C Cr hc kk => x_iload C rfl dX4_readMark_239 (kk)) ?_
    refine zX_br (p1 := 248) (p2 := 244) (st' := []) (s0 < 0) (fun C kt kf => x_if_lt C 248 dX4_readMark_241 (by decide) kt kf) (fun q4 => ?_) (fun q4 => ?_)
    · replace H := H.1 q4
      refine zX_seg (pc' := 249) (L' := [.ref l0, .int l1, .float 0, .float 0, .int s0]) (st' := [.int (0 : Int32)]) (h2 := h3) rfl rfl (fun C Cr hc kk => x_iconst C (0 : Int32) (by decide) dX4_readMark_248 (kk)) ?_
      exact zX_ret (some (.int (0 : Int32))) (fun C Cr hc => x_iret C Cr rfl rfl hc dX4_readMark_249 ⟨rfl, rfl⟩) H
    · replace H := H.2 q4
      refine zX_seg (pc' := 249) (L' := [.ref l0, .int l1, .float 0, .float 0, .int s0]) (st' := [.int (1 : Int32)]) (h2 := h3) rfl rfl (fun C Cr hc kk => x_iconst C (1 : Int32) (by decide) dX4_readMark_244 (x_goto C 249 dX4_readMark_245 (by decide) (kk))) ?_
      exact zX_ret (some (.int (1 : Int32))) (fun C Cr hc => x_iret C Cr rfl rfl hc dX4_readMark_249 ⟨rfl, rfl⟩) H
  · replace H := H.2 q1
    refine zX_seg (pc' := 236) (L' := [.ref l0, .int l1, .float 0, .float 0, .int s0]) (st' := [.int (0 : Int32), .int s0, .int (15 : Int32), .ref l0]) (h2 := h) rfl rfl (fun C Cr hc kk => x_bipush C (15 : Int32) (by decide) dX4_readMark_231 (x_iload C rfl dX4_readMark_233 (x_iconst C (0 : Int32) (by decide) dX4_readMark_235 (kk)))) ?_
    obtain ⟨g5, H⟩ := H
    refine zX_call (as := [.ref l0, .int (15 : Int32), .int s0, .int (0 : Int32)]) (st := []) (fun C hM hc kk => f_callV C [.int (15 : Int32), .int s0, .int (0 : Int32)] hM kX4_addStep vX4_addStep lX4_196 ⟨by decide, by decide⟩ (rfl : vwCl[4]? = some (RX4, TX4, 14)) g5 rfl hc (Nat.le_of_ble_eq_true rfl) rfl dX4_readMark_236 kk) (zC.mono H ?_)
    rintro r0 h6 ⟨rfl, H⟩
    show zX mX4_readMark 239 [.ref l0, .int l1, .float 0, .float 0, .int s0] [] h6 Q
    refine zX_seg (pc' := 241) (L' := [.ref l0, .int l1, .float 0, .float 0, .int s0]) (st' := [.int s0]) (h2 := h6) rfl rfl (fun C Cr hc kk => x_iload C rfl dX4_readMark_239 (kk)) ?_
    refine zX_br (p1 := 248) (p2 := 244) (st' := []) (s0 < 0) (fun C kt kf => x_if_lt C 248 dX4_readMark_241 (by decide) kt kf) (fun q7 => ?_) (fun q7 => ?_)
    · replace H := H.1 q7
      refine zX_seg (pc' := 249) (L' := [.ref l0, .int l1, .float 0, .float 0, .int s0]) (st' := [.int (0 : Int32)]) (h2 := h6) rfl rfl (fun C Cr hc kk => x_iconst C (0 : Int32) (by decide) dX4_readMark_248 (kk)) ?_
      exact zX_ret (some (.int (0 : Int32))) (fun C Cr hc => x_iret C Cr rfl rfl hc dX4_readMark_249 ⟨rfl, rfl⟩) H
    · replace H := H.2 q7
      refine zX_seg (pc' := 249) (L' := [.ref l0, .int l1, .float 0, .float 0, .int s0]) (st' := [.int (1 : Int32)]) (h2 := h6) rfl rfl (fun C Cr hc kk => x_iconst C (1 : Int32) (by decide) dX4_readMark_244 (x_goto C 249 dX4_readMark_245 (by decide) (kk))) ?_
      exact zX_ret (some (.int (1 : Int32))) (fun C Cr hc => x_iret C Cr rfl rfl hc dX4_readMark_249 ⟨rfl, rfl⟩) H
set_option maxHeartbeats 20000000 in
theorem bX4_readMark_250 (l0 : Nat) (h : zH) (Q : Option Value → zH → Prop) (H : oK h l0 4 ∧ (zC mX4_fail [.ref l0, .int (2 : Int32)] h (fun r0 h2 => ∃ x3 : Int32, r0 = some (.int x3) ∧ ((x3 = 0 ∨ x3 = 1) ∧ (Q (some (.int x3)) h2))))) : zX mX4_readMark 250 [.ref l0, .float 0, .float 0, .float 0, .float 0] [] h Q := by
  refine zX_seg (pc' := 252) (L' := [.ref l0, .float 0, .float 0, .float 0, .float 0]) (st' := [.int (2 : Int32), .ref l0]) (h2 := h) rfl rfl (fun C Cr hc kk => x_aload_n C (v := .ref l0) rfl rfl dX4_readMark_250 (x_iconst C (2 : Int32) (by decide) dX4_readMark_251 (kk))) ?_
  obtain ⟨g1, H⟩ := H
  refine zX_call (as := [.ref l0, .int (2 : Int32)]) (st := []) (fun C hM hc kk => f_callV C [.int (2 : Int32)] hM kX4_fail vX4_fail lX4_75 ⟨by decide, by decide⟩ (rfl : vwCl[4]? = some (RX4, TX4, 14)) g1 rfl hc (Nat.le_of_ble_eq_true rfl) rfl dX4_readMark_252 kk) (zC.mono H ?_)
  rintro r0 h2 ⟨x3, rfl, H⟩
  show zX mX4_readMark 255 [.ref l0, .float 0, .float 0, .float 0, .float 0] [.int x3] h2 Q
  obtain ⟨g4, H⟩ := H
  exact zX_ret (some (.int x3)) (fun C Cr hc => x_iret C Cr rfl (by rcases g4 with z | z <;> rw [z] <;> rfl) hc dX4_readMark_255 ⟨rfl, rfl⟩) H
theorem nX4_readMark (t : Nat) (h : zH) (Q : Option Value → zH → Prop) (H : zX mX4_readMark 0 [.ref t, .float 0, .float 0, .float 0, .float 0] [] h Q) : zC mX4_readMark [.ref t] h Q := zC_of (by decide +kernel) (by simp) (Nat.le_of_ble_eq_true rfl) H
set_option maxHeartbeats 20000000 in
theorem bX4_readElse_0 (t : Nat) (h : zH) (Q : Option Value → zH → Prop) (H : oK h t 4 ∧ (zX mX4_readElse 5 [.ref t, .int (gI h t 5)] [] h Q)) : zX mX4_readElse 0 [.ref t, .float 0] [] h Q := by
  obtain ⟨g1, H⟩ := H
  refine zX_seg (pc' := 5) (L' := [.ref t, .int (gI h t 5)]) (st' := []) (h2 := h) rfl rfl (fun C Cr hc kk => x_aload_n C (v := .ref t) rfl rfl dX4_readElse_0 (f_getI C lX4_124 g1 rfl dX4_readElse_1 (x_istore_n C (by decide) dX4_readElse_4 (kk)))) ?_
  exact zX_wk (wkK (wkK wkN)) H
set_option maxHeartbeats 20000000 in
theorem bX4_readElse_5 (l0 : Nat) (l1 : Int32) (h : zH) (Q : Option Value → zH → Prop) (H : (l1 ≤ 0 → (zX mX4_readElse 28 [.ref l0, .float 0] [] h Q)) ∧ (¬ (l1 ≤ 0) → (oK h l0 4 ∧ (zC mX4_topKind [.ref l0] h (fun r0 h3 => ∃ x4 : Int32, r0 = some (.int x4) ∧ ((x4 = (2 : Int32) → (oK h3 l0 4 ∧ (zC mX4_drop [.ref l0, .int (2 : Int32)] h3 (fun r0 h7 => r0 = none ∧ (zX mX4_readElse 5 [.ref l0, .int (l1 + (-1))] [] h7 Q))))) ∧ (¬ (x4 = (2 : Int32)) → (zX mX4_readElse 28 [.ref l0, .float 0] [] h3 Q)))))))) : zX mX4_readElse 5 [.ref l0, .int l1] [] h Q := by
  refine zX_seg (pc' := 6) (L' := [.ref l0, .int l1]) (st' := [.int l1]) (h2 := h) rfl rfl (fun C Cr hc kk => x_iload_n C rfl dX4_readElse_5 (kk)) ?_
  refine zX_br (p1 := 28) (p2 := 9) (st' := []) (l1 ≤ 0) (fun C kt kf => x_if_le C 28 dX4_readElse_6 (by decide) kt kf) (fun q1 => ?_) (fun q1 => ?_)
  · replace H := H.1 q1
    exact zX_wk (wkK (wkD wkN)) H
  · replace H := H.2 q1
    refine zX_seg (pc' := 10) (L' := [.ref l0, .int l1]) (st' := [.ref l0]) (h2 := h) rfl rfl (fun C Cr hc kk => x_aload_n C (v := .ref l0) rfl rfl dX4_readElse_9 (kk)) ?_
    obtain ⟨g2, H⟩ := H
    refine zX_call (as := [.ref l0]) (st := []) (fun C hM hc kk => f_callV C [] hM kX4_topKind vX4_topKind lX4_206 ⟨by decide, by decide⟩ (rfl : vwCl[4]? = some (RX4, TX4, 14)) g2 rfl hc (Nat.le_of_ble_eq_true rfl) rfl dX4_readElse_10 kk) (zC.mono H ?_)
    rintro r0 h3 ⟨x4, rfl, H⟩
    show zX mX4_readElse 13 [.ref l0, .int l1] [.int x4] h3 Q
    refine zX_seg (pc' := 14) (L' := [.ref l0, .int l1]) (st' := [.int (2 : Int32), .int x4]) (h2 := h3) rfl rfl (fun C Cr hc kk => x_iconst C (2 : Int32) (by decide) dX4_readElse_13 (kk)) ?_
    refine zX_br (p1 := 17) (p2 := 28) (st' := []) (x4 = (2 : Int32)) (fun C kt kf => x_icmp_ne C 28 dX4_readElse_14 (by decide) kf kt) (fun q5 => ?_) (fun q5 => ?_)
    · replace H := H.1 q5
      refine zX_seg (pc' := 19) (L' := [.ref l0, .int l1]) (st' := [.int (2 : Int32), .ref l0]) (h2 := h3) rfl rfl (fun C Cr hc kk => x_aload_n C (v := .ref l0) rfl rfl dX4_readElse_17 (x_iconst C (2 : Int32) (by decide) dX4_readElse_18 (kk))) ?_
      obtain ⟨g6, H⟩ := H
      refine zX_call (as := [.ref l0, .int (2 : Int32)]) (st := []) (fun C hM hc kk => f_callV C [.int (2 : Int32)] hM kX4_drop vX4_drop lX4_209 ⟨by decide, by decide⟩ (rfl : vwCl[4]? = some (RX4, TX4, 14)) g6 rfl hc (Nat.le_of_ble_eq_true rfl) rfl dX4_readElse_19 kk) (zC.mono H ?_)
      rintro r0 h7 ⟨rfl, H⟩
      show zX mX4_readElse 22 [.ref l0, .int l1] [] h7 Q
      refine zX_seg (pc' := 5) (L' := [.ref l0, .int (l1 + (-1))]) (st' := []) (h2 := h7) rfl rfl (fun C Cr hc kk => x_iinc C (l1 + (-1)) rfl (congrArg (HAdd.hAdd _) (by decide)) (by decide) dX4_readElse_22 (x_goto C 5 dX4_readElse_25 (by decide) (kk))) ?_
      exact zX_wk (wkK (wkK wkN)) H
    · replace H := H.2 q5
      exact zX_wk (wkK (wkD wkN)) H
set_option maxHeartbeats 20000000 in
theorem bX4_readElse_28 (l0 : Nat) (h : zH) (Q : Option Value → zH → Prop) (H : oK h l0 4 ∧ (((gI h l0 5) = 0 → (Q (some (.int (4 : Int32))) h)) ∧ (¬ ((gI h l0 5) = 0) → (∃ a3 : Nat, gR h l0 2 = some a3 ∧ (zC mX11_at [.ref a3, .int ((gI h l0 5) - (1 : Int32))] h (fun r0 h4 => ∃ x5 : Int32, r0 = some (.int x5) ∧ (oK h4 l0 4 ∧ (zC mX4_take [.ref l0, .int (8 : Int32)] h4 (fun r0 h7 => ∃ x8 : Int32, r0 = some (.int x8) ∧ ((x8 = 0 → (Q (some (.int (0 : Int32))) h7)) ∧ (¬ (x8 = 0) → (oK h7 l0 4 ∧ (∃ a11 : Nat, gR h7 l0 1 = some a11 ∧ (zC mX11_put [.ref a11, .int (x5 >>> ((4 : Int32) &&& 31)), .int ((3 : Int32) + ((256 : Int32) * (gI h7 l0 4)))] h7 (fun r0 h12 => r0 = none ∧ (oK h12 l0 4 ∧ (∃ a14 : Nat, gR h12 l0 2 = some a14 ∧ (zC mX11_put [.ref a14, .int ((gI h12 l0 5) - (1 : Int32)), .int (2 : Int32)] h12 (fun r0 h15 => r0 = none ∧ (Q (some (.int (0 : Int32))) h15)))))))))))))))))))) : zX mX4_readElse 28 [.ref l0, .float 0] [] h Q := by
  obtain ⟨g1, H⟩ := H
  refine zX_seg (pc' := 32) (L' := [.ref l0, .float 0]) (st' := [.int (gI h l0 5)]) (h2 := h) rfl rfl (fun C Cr hc kk => x_aload_n C (v := .ref l0) rfl rfl dX4_readElse_28 (f_getI C lX4_124 g1 rfl dX4_readElse_29 (kk))) ?_
  refine zX_br (p1 := 35) (p2 := 37) (st' := []) ((gI h l0 5) = 0) (fun C kt kf => x_if_ne C 37 dX4_readElse_32 (by decide) kf kt) (fun q2 => ?_) (fun q2 => ?_)
  · replace H := H.1 q2
    refine zX_seg (pc' := 36) (L' := [.ref l0, .float 0]) (st' := [.int (4 : Int32)]) (h2 := h) rfl rfl (fun C Cr hc kk => x_iconst C (4 : Int32) (by decide) dX4_readElse_35 (kk)) ?_
    exact zX_ret (some (.int (4 : Int32))) (fun C Cr hc => x_iret C Cr rfl rfl hc dX4_readElse_36 ⟨rfl, rfl⟩) H
  · replace H := H.2 q2
    obtain ⟨a3, ea3, H⟩ := H
    refine zX_seg (pc' := 47) (L' := [.ref l0, .float 0]) (st' := [.int ((gI h l0 5) - (1 : Int32)), .ref a3]) (h2 := h) rfl rfl (fun C Cr hc kk => x_aload_n C (v := .ref l0) rfl rfl dX4_readElse_37 (f_getR1 C lX4_22 g1 rfl ea3 dX4_readElse_38 (x_aload_n C (v := .ref l0) rfl rfl dX4_readElse_41 (f_getI C lX4_124 g1 rfl dX4_readElse_42 (x_iconst C (1 : Int32) (by decide) dX4_readElse_45 (x_isub C dX4_readElse_46 (kk))))))) ?_
    refine zX_call (as := [.ref a3, .int ((gI h l0 5) - (1 : Int32))]) (st := []) (fun C hM hc kk => x_callSN C [.ref a3, .int ((gI h l0 5) - (1 : Int32))] hM kX11_at sX11_at lX4_212 ⟨by decide, by decide⟩ rfl hc (Nat.le_of_ble_eq_true rfl) rfl dX4_readElse_47 kk) (zC.mono H ?_)
    rintro r0 h4 ⟨x5, rfl, H⟩
    show zX mX4_readElse 50 [.ref l0, .float 0] [.int x5] h4 Q
    refine zX_seg (pc' := 56) (L' := [.ref l0, .int (x5 >>> ((4 : Int32) &&& 31))]) (st' := [.int (8 : Int32), .ref l0]) (h2 := h4) rfl rfl (fun C Cr hc kk => x_iconst C (4 : Int32) (by decide) dX4_readElse_50 (x_ishr C dX4_readElse_51 (x_istore_n C (by decide) dX4_readElse_52 (x_aload_n C (v := .ref l0) rfl rfl dX4_readElse_53 (x_bipush C (8 : Int32) (by decide) dX4_readElse_54 (kk)))))) ?_
    obtain ⟨g6, H⟩ := H
    refine zX_call (as := [.ref l0, .int (8 : Int32)]) (st := []) (fun C hM hc kk => f_callV C [.int (8 : Int32)] hM kX4_take vX4_take lX4_79 ⟨by decide, by decide⟩ (rfl : vwCl[4]? = some (RX4, TX4, 14)) g6 rfl hc (Nat.le_of_ble_eq_true rfl) rfl dX4_readElse_56 kk) (zC.mono H ?_)
    rintro r0 h7 ⟨x8, rfl, H⟩
    show zX mX4_readElse 59 [.ref l0, .int (x5 >>> ((4 : Int32) &&& 31))] [.int x8] h7 Q
    refine zX_br (p1 := 94) (p2 := 62) (st' := []) (x8 = 0) (fun C kt kf => x_if_eq C 94 dX4_readElse_59 (by decide) kt kf) (fun q9 => ?_) (fun q9 => ?_)
    · replace H := H.1 q9
      refine zX_seg (pc' := 95) (L' := [.ref l0, .int (x5 >>> ((4 : Int32) &&& 31))]) (st' := [.int (0 : Int32)]) (h2 := h7) rfl rfl (fun C Cr hc kk => x_iconst C (0 : Int32) (by decide) dX4_readElse_94 (kk)) ?_
      exact zX_ret (some (.int (0 : Int32))) (fun C Cr hc => x_iret C Cr rfl rfl hc dX4_readElse_95 ⟨rfl, rfl⟩) H
    · replace H := H.2 q9
      obtain ⟨g10, H⟩ := H
      obtain ⟨a11, ea11, H⟩ := H
      refine zX_seg (pc' := 77) (L' := [.ref l0, .int (x5 >>> ((4 : Int32) &&& 31))]) (st' := [.int ((3 : Int32) + ((256 : Int32) * (gI h7 l0 4))), .int (x5 >>> ((4 : Int32) &&& 31)), .ref a11]) (h2 := h7) rfl rfl (fun C Cr hc kk => x_aload_n C (v := .ref l0) rfl rfl dX4_readElse_62 (f_getR1 C lX4_18 g10 rfl ea11 dX4_readElse_63 (x_iload_n C rfl dX4_readElse_66 (x_iconst C (3 : Int32) (by decide) dX4_readElse_67 (x_sipush C (256 : Int32) (by decide) dX4_readElse_68 (x_aload_n C (v := .ref l0) rfl rfl dX4_readElse_71 (f_getI C lX4_86 g10 rfl dX4_readElse_72 (x_imul C dX4_readElse_75 (x_iadd C dX4_readElse_76 (kk)))))))))) ?_
      refine zX_call (as := [.ref a11, .int (x5 >>> ((4 : Int32) &&& 31)), .int ((3 : Int32) + ((256 : Int32) * (gI h7 l0 4)))]) (st := []) (fun C hM hc kk => x_callSN C [.ref a11, .int (x5 >>> ((4 : Int32) &&& 31)), .int ((3 : Int32) + ((256 : Int32) * (gI h7 l0 4)))] hM kX11_put sX11_put lX4_216 ⟨by decide, by decide⟩ rfl hc (Nat.le_of_ble_eq_true rfl) rfl dX4_readElse_77 kk) (zC.mono H ?_)
      rintro r0 h12 ⟨rfl, H⟩
      show zX mX4_readElse 80 [.ref l0, .int (x5 >>> ((4 : Int32) &&& 31))] [] h12 Q
      obtain ⟨g13, H⟩ := H
      obtain ⟨a14, ea14, H⟩ := H
      refine zX_seg (pc' := 91) (L' := [.ref l0, .int (x5 >>> ((4 : Int32) &&& 31))]) (st' := [.int (2 : Int32), .int ((gI h12 l0 5) - (1 : Int32)), .ref a14]) (h2 := h12) rfl rfl (fun C Cr hc kk => x_aload_n C (v := .ref l0) rfl rfl dX4_readElse_80 (f_getR1 C lX4_22 g13 rfl ea14 dX4_readElse_81 (x_aload_n C (v := .ref l0) rfl rfl dX4_readElse_84 (f_getI C lX4_124 g13 rfl dX4_readElse_85 (x_iconst C (1 : Int32) (by decide) dX4_readElse_88 (x_isub C dX4_readElse_89 (x_iconst C (2 : Int32) (by decide) dX4_readElse_90 (kk)))))))) ?_
      refine zX_call (as := [.ref a14, .int ((gI h12 l0 5) - (1 : Int32)), .int (2 : Int32)]) (st := []) (fun C hM hc kk => x_callSN C [.ref a14, .int ((gI h12 l0 5) - (1 : Int32)), .int (2 : Int32)] hM kX11_put sX11_put lX4_216 ⟨by decide, by decide⟩ rfl hc (Nat.le_of_ble_eq_true rfl) rfl dX4_readElse_91 kk) (zC.mono H ?_)
      rintro r0 h15 ⟨rfl, H⟩
      show zX mX4_readElse 94 [.ref l0, .int (x5 >>> ((4 : Int32) &&& 31))] [] h15 Q
      refine zX_seg (pc' := 95) (L' := [.ref l0, .int (x5 >>> ((4 : Int32) &&& 31))]) (st' := [.int (0 : Int32)]) (h2 := h15) rfl rfl (fun C Cr hc kk => x_iconst C (0 : Int32) (by decide) dX4_readElse_94 (kk)) ?_
      exact zX_ret (some (.int (0 : Int32))) (fun C Cr hc => x_iret C Cr rfl rfl hc dX4_readElse_95 ⟨rfl, rfl⟩) H
theorem nX4_readElse (t : Nat) (h : zH) (Q : Option Value → zH → Prop) (H : zX mX4_readElse 0 [.ref t, .float 0] [] h Q) : zC mX4_readElse [.ref t] h Q := zC_of (by decide +kernel) (by simp) (Nat.le_of_ble_eq_true rfl) H
set_option maxHeartbeats 20000000 in
theorem bX4_readUnit_0 (t : Nat) (h : zH) (Q : Option Value → zH → Prop) (H : oK h t 4 ∧ (∃ a2 : Nat, gR h t 0 = some a2 ∧ (oK h a2 8 ∧ (((gI h a2 8) = 16 → (zX mX4_readUnit 56 [.ref t, .float 0] [] h Q)) ∧ (((gI h a2 8) = 17 → (zX mX4_readUnit 122 [.ref t, .int (gI h a2 8)] [] h Q)) ∧ (((gI h a2 8) = 18 → (zX mX4_readUnit 122 [.ref t, .int (gI h a2 8)] [] h Q)) ∧ (((gI h a2 8) = 19 → (zX mX4_readUnit 129 [.ref t, .float 0] [] h Q)) ∧ (((gI h a2 8) = 21 → (zX mX4_readUnit 93 [.ref t, .int (gI h a2 8)] [] h Q)) ∧ (((gI h a2 8) = 23 → (zX mX4_readUnit 81 [.ref t, .float 0] [] h Q)) ∧ (¬ (gI h a2 8) = 16 → ¬ (gI h a2 8) = 17 → ¬ (gI h a2 8) = 18 → ¬ (gI h a2 8) = 19 → ¬ (gI h a2 8) = 21 → ¬ (gI h a2 8) = 23 → (zX mX4_readUnit 135 [.ref t, .float 0] [] h Q))))))))))) : zX mX4_readUnit 0 [.ref t, .float 0] [] h Q := by
  obtain ⟨g1, H⟩ := H
  obtain ⟨a2, ea2, H⟩ := H
  obtain ⟨g3, H⟩ := H
  refine zX_seg (pc' := (ztt 9 126 16 23 [47, 113, 113, 120, 126, 84, 126, 72] (gI h a2 8))) (L' := [.ref t, .int (gI h a2 8)]) (st' := []) (h2 := h) rfl rfl (fun C Cr hc kk => x_aload_n C (v := .ref t) rfl rfl dX4_readUnit_0 (f_getR1 C lX4_12 g1 rfl ea2 dX4_readUnit_1 (f_getIN C lX4_41 g3 rfl dX4_readUnit_4 (x_istore_n C (by decide) dX4_readUnit_7 (x_iload_n C rfl dX4_readUnit_8 (f_table C ⟨⟨by decide, by decide⟩, by decide⟩ dX4_readUnit_9 (kk))))))) ?_
  by_cases z4 : (gI h a2 8) = 16
  · replace H := H.1 z4
    rw [show (ztt 9 126 16 23 [47, 113, 113, 120, 126, 84, 126, 72] (gI h a2 8)) = 56 from by rw [z4]; decide]
    exact zX_wk (wkK (wkD wkN)) H
  · replace H := H.2
    by_cases z5 : (gI h a2 8) = 17
    · replace H := H.1 z5
      rw [show (ztt 9 126 16 23 [47, 113, 113, 120, 126, 84, 126, 72] (gI h a2 8)) = 122 from by rw [z5]; decide]
      exact zX_wk (wkK (wkK wkN)) H
    · replace H := H.2
      by_cases z6 : (gI h a2 8) = 18
      · replace H := H.1 z6
        rw [show (ztt 9 126 16 23 [47, 113, 113, 120, 126, 84, 126, 72] (gI h a2 8)) = 122 from by rw [z6]; decide]
        exact zX_wk (wkK (wkK wkN)) H
      · replace H := H.2
        by_cases z7 : (gI h a2 8) = 19
        · replace H := H.1 z7
          rw [show (ztt 9 126 16 23 [47, 113, 113, 120, 126, 84, 126, 72] (gI h a2 8)) = 129 from by rw [z7]; decide]
          exact zX_wk (wkK (wkD wkN)) H
        · replace H := H.2
          by_cases z8 : (gI h a2 8) = 21
          · replace H := H.1 z8
            rw [show (ztt 9 126 16 23 [47, 113, 113, 120, 126, 84, 126, 72] (gI h a2 8)) = 93 from by rw [z8]; decide]
            exact zX_wk (wkK (wkK wkN)) H
          · replace H := H.2
            by_cases z9 : (gI h a2 8) = 23
            · replace H := H.1 z9
              rw [show (ztt 9 126 16 23 [47, 113, 113, 120, 126, 84, 126, 72] (gI h a2 8)) = 81 from by rw [z9]; decide]
              exact zX_wk (wkK (wkD wkN)) H
            · replace H := H.2
              rw [show (ztt 9 126 16 23 [47, 113, 113, 120, 126, 84, 126, 72] (gI h a2 8)) = 135 from (ztt_d [16, 17, 18, 19, 21, 23] (by decide) (by decide) (List.forall_mem_cons.mpr ⟨z4, (List.forall_mem_cons.mpr ⟨z5, (List.forall_mem_cons.mpr ⟨z6, (List.forall_mem_cons.mpr ⟨z7, (List.forall_mem_cons.mpr ⟨z8, (List.forall_mem_cons.mpr ⟨z9, (fun _ h => absurd h List.not_mem_nil)⟩)⟩)⟩)⟩)⟩)⟩)).trans (by decide)]
              replace H := H z4 z5 z6 z7 z8 z9
              exact zX_wk (wkK (wkD wkN)) H
set_option maxHeartbeats 20000000 in
theorem bX4_readUnit_56 (l0 : Nat) (h : zH) (Q : Option Value → zH → Prop) (H : oK h l0 4 ∧ (zC mX4_topKind [.ref l0] h (fun r0 h2 => ∃ x3 : Int32, r0 = some (.int x3) ∧ (zC mX4_binding [.int x3] h2 (fun r0 h4 => ∃ x5 : Int32, r0 = some (.int x5) ∧ ((x5 < (4 : Int32) → (oK h4 l0 4 ∧ (zC mX4_enter [.ref l0, .int (6 : Int32)] h4 (fun r0 h8 => r0 = none ∧ (Q (some (.int (1 : Int32))) h8))))) ∧ (¬ (x5 < (4 : Int32)) → (oK h4 l0 4 ∧ (zC mX4_fail [.ref l0, .int (2 : Int32)] h4 (fun r0 h10 => ∃ x11 : Int32, r0 = some (.int x11) ∧ (oK h10 l0 4 ∧ (zC mX4_enter [.ref l0, .int (6 : Int32)] h10 (fun r0 h13 => r0 = none ∧ (Q (some (.int (1 : Int32))) h13)))))))))))))) : zX mX4_readUnit 56 [.ref l0, .float 0] [] h Q := by
  refine zX_seg (pc' := 57) (L' := [.ref l0, .float 0]) (st' := [.ref l0]) (h2 := h) rfl rfl (fun C Cr hc kk => x_aload_n C (v := .ref l0) rfl rfl dX4_readUnit_56 (kk)) ?_
  obtain ⟨g1, H⟩ := H
  refine zX_call (as := [.ref l0]) (st := []) (fun C hM hc kk => f_callV C [] hM kX4_topKind vX4_topKind lX4_206 ⟨by decide, by decide⟩ (rfl : vwCl[4]? = some (RX4, TX4, 14)) g1 rfl hc (Nat.le_of_ble_eq_true rfl) rfl dX4_readUnit_57 kk) (zC.mono H ?_)
  rintro r0 h2 ⟨x3, rfl, H⟩
  show zX mX4_readUnit 60 [.ref l0, .float 0] [.int x3] h2 Q
  refine zX_call (as := [.int x3]) (st := []) (fun C hM hc kk => x_callS C [.int x3] hM kX4_binding sX4_binding lX4_220 ⟨by decide, by decide⟩ rfl hc (Nat.le_of_ble_eq_true rfl) rfl dX4_readUnit_60 kk) (zC.mono H ?_)
  rintro r0 h4 ⟨x5, rfl, H⟩
  show zX mX4_readUnit 63 [.ref l0, .float 0] [.int x5] h4 Q
  refine zX_seg (pc' := 64) (L' := [.ref l0, .float 0]) (st' := [.int (4 : Int32), .int x5]) (h2 := h4) rfl rfl (fun C Cr hc kk => x_iconst C (4 : Int32) (by decide) dX4_readUnit_63 (kk)) ?_
  refine zX_br (p1 := 73) (p2 := 67) (st' := []) (x5 < (4 : Int32)) (fun C kt kf => x_icmp_lt C 73 dX4_readUnit_64 (by decide) kt kf) (fun q6 => ?_) (fun q6 => ?_)
  · replace H := H.1 q6
    refine zX_seg (pc' := 76) (L' := [.ref l0, .float 0]) (st' := [.int (6 : Int32), .ref l0]) (h2 := h4) rfl rfl (fun C Cr hc kk => x_aload_n C (v := .ref l0) rfl rfl dX4_readUnit_73 (x_bipush C (6 : Int32) (by decide) dX4_readUnit_74 (kk))) ?_
    obtain ⟨g7, H⟩ := H
    refine zX_call (as := [.ref l0, .int (6 : Int32)]) (st := []) (fun C hM hc kk => f_callV C [.int (6 : Int32)] hM kX4_enter vX4_enter lX4_187 ⟨by decide, by decide⟩ (rfl : vwCl[4]? = some (RX4, TX4, 14)) g7 rfl hc (Nat.le_of_ble_eq_true rfl) rfl dX4_readUnit_76 kk) (zC.mono H ?_)
    rintro r0 h8 ⟨rfl, H⟩
    show zX mX4_readUnit 79 [.ref l0, .float 0] [] h8 Q
    refine zX_seg (pc' := 80) (L' := [.ref l0, .float 0]) (st' := [.int (1 : Int32)]) (h2 := h8) rfl rfl (fun C Cr hc kk => x_iconst C (1 : Int32) (by decide) dX4_readUnit_79 (kk)) ?_
    exact zX_ret (some (.int (1 : Int32))) (fun C Cr hc => x_iret C Cr rfl rfl hc dX4_readUnit_80 ⟨rfl, rfl⟩) H
  · replace H := H.2 q6
    refine zX_seg (pc' := 69) (L' := [.ref l0, .float 0]) (st' := [.int (2 : Int32), .ref l0]) (h2 := h4) rfl rfl (fun C Cr hc kk => x_aload_n C (v := .ref l0) rfl rfl dX4_readUnit_67 (x_iconst C (2 : Int32) (by decide) dX4_readUnit_68 (kk))) ?_
    obtain ⟨g9, H⟩ := H
    refine zX_call (as := [.ref l0, .int (2 : Int32)]) (st := []) (fun C hM hc kk => f_callV C [.int (2 : Int32)] hM kX4_fail vX4_fail lX4_75 ⟨by decide, by decide⟩ (rfl : vwCl[4]? = some (RX4, TX4, 14)) g9 rfl hc (Nat.le_of_ble_eq_true rfl) rfl dX4_readUnit_69 kk) (zC.mono H ?_)
    rintro r0 h10 ⟨x11, rfl, H⟩
    show zX mX4_readUnit 72 [.ref l0, .float 0] [.int x11] h10 Q
    refine zX_seg (pc' := 76) (L' := [.ref l0, .float 0]) (st' := [.int (6 : Int32), .ref l0]) (h2 := h10) rfl rfl (fun C Cr hc kk => x_pop C rfl dX4_readUnit_72 (x_aload_n C (v := .ref l0) rfl rfl dX4_readUnit_73 (x_bipush C (6 : Int32) (by decide) dX4_readUnit_74 (kk)))) ?_
    obtain ⟨g12, H⟩ := H
    refine zX_call (as := [.ref l0, .int (6 : Int32)]) (st := []) (fun C hM hc kk => f_callV C [.int (6 : Int32)] hM kX4_enter vX4_enter lX4_187 ⟨by decide, by decide⟩ (rfl : vwCl[4]? = some (RX4, TX4, 14)) g12 rfl hc (Nat.le_of_ble_eq_true rfl) rfl dX4_readUnit_76 kk) (zC.mono H ?_)
    rintro r0 h13 ⟨rfl, H⟩
    show zX mX4_readUnit 79 [.ref l0, .float 0] [] h13 Q
    refine zX_seg (pc' := 80) (L' := [.ref l0, .float 0]) (st' := [.int (1 : Int32)]) (h2 := h13) rfl rfl (fun C Cr hc kk => x_iconst C (1 : Int32) (by decide) dX4_readUnit_79 (kk)) ?_
    exact zX_ret (some (.int (1 : Int32))) (fun C Cr hc => x_iret C Cr rfl rfl hc dX4_readUnit_80 ⟨rfl, rfl⟩) H
set_option maxHeartbeats 20000000 in
theorem bX4_readUnit_81 (l0 : Nat) (h : zH) (Q : Option Value → zH → Prop) (H : oK h l0 4 ∧ (zC mX4_countUnit [.ref l0] h (fun r0 h2 => ∃ x3 : Int32, r0 = some (.int x3) ∧ (oK h2 l0 4 ∧ (zC mX4_enter [.ref l0, .int (3 : Int32)] h2 (fun r0 h5 => r0 = none ∧ (Q (some (.int (1 : Int32))) h5))))))) : zX mX4_readUnit 81 [.ref l0, .float 0] [] h Q := by
  refine zX_seg (pc' := 82) (L' := [.ref l0, .float 0]) (st' := [.ref l0]) (h2 := h) rfl rfl (fun C Cr hc kk => x_aload_n C (v := .ref l0) rfl rfl dX4_readUnit_81 (kk)) ?_
  obtain ⟨g1, H⟩ := H
  refine zX_call (as := [.ref l0]) (st := []) (fun C hM hc kk => f_callV C [] hM kX4_countUnit vX4_countUnit lX4_193 ⟨by decide, by decide⟩ (rfl : vwCl[4]? = some (RX4, TX4, 14)) g1 rfl hc (Nat.le_of_ble_eq_true rfl) rfl dX4_readUnit_82 kk) (zC.mono H ?_)
  rintro r0 h2 ⟨x3, rfl, H⟩
  show zX mX4_readUnit 85 [.ref l0, .float 0] [.int x3] h2 Q
  refine zX_seg (pc' := 88) (L' := [.ref l0, .float 0]) (st' := [.int (3 : Int32), .ref l0]) (h2 := h2) rfl rfl (fun C Cr hc kk => x_pop C rfl dX4_readUnit_85 (x_aload_n C (v := .ref l0) rfl rfl dX4_readUnit_86 (x_iconst C (3 : Int32) (by decide) dX4_readUnit_87 (kk)))) ?_
  obtain ⟨g4, H⟩ := H
  refine zX_call (as := [.ref l0, .int (3 : Int32)]) (st := []) (fun C hM hc kk => f_callV C [.int (3 : Int32)] hM kX4_enter vX4_enter lX4_187 ⟨by decide, by decide⟩ (rfl : vwCl[4]? = some (RX4, TX4, 14)) g4 rfl hc (Nat.le_of_ble_eq_true rfl) rfl dX4_readUnit_88 kk) (zC.mono H ?_)
  rintro r0 h5 ⟨rfl, H⟩
  show zX mX4_readUnit 91 [.ref l0, .float 0] [] h5 Q
  refine zX_seg (pc' := 92) (L' := [.ref l0, .float 0]) (st' := [.int (1 : Int32)]) (h2 := h5) rfl rfl (fun C Cr hc kk => x_iconst C (1 : Int32) (by decide) dX4_readUnit_91 (kk)) ?_
  exact zX_ret (some (.int (1 : Int32))) (fun C Cr hc => x_iret C Cr rfl rfl hc dX4_readUnit_92 ⟨rfl, rfl⟩) H
set_option maxHeartbeats 20000000 in
theorem bX4_readUnit_93 (l0 : Nat) (l1 : Int32) (h : zH) (Q : Option Value → zH → Prop) (H : oK h l0 4 ∧ (∃ a2 : Nat, gR h l0 0 = some a2 ∧ (oK h a2 8 ∧ (zC mX4_addStep [.ref l0, .int (0 : Int32), .int (0 : Int32), .int ((gL h a2 10).toInt32)] h (fun r0 h4 => r0 = none ∧ (oK h4 l0 4 ∧ (zC mX4_countUnit [.ref l0] h4 (fun r0 h6 => ∃ x7 : Int32, r0 = some (.int x7) ∧ ((x7 = 0 → (Q (some (.int (2 : Int32))) h6)) ∧ (¬ (x7 = 0) → (oK h6 l0 4 ∧ (zC mX4_take [.ref l0, .int l1] h6 (fun r0 h10 => ∃ x11 : Int32, r0 = some (.int x11) ∧ (Q (some (.int (2 : Int32))) h10)))))))))))))) : zX mX4_readUnit 93 [.ref l0, .int l1] [] h Q := by
  obtain ⟨g1, H⟩ := H
  obtain ⟨a2, ea2, H⟩ := H
  obtain ⟨g3, H⟩ := H
  refine zX_seg (pc' := 104) (L' := [.ref l0, .int l1]) (st' := [.int ((gL h a2 10).toInt32), .int (0 : Int32), .int (0 : Int32), .ref l0]) (h2 := h) rfl rfl (fun C Cr hc kk => x_aload_n C (v := .ref l0) rfl rfl dX4_readUnit_93 (x_iconst C (0 : Int32) (by decide) dX4_readUnit_94 (x_iconst C (0 : Int32) (by decide) dX4_readUnit_95 (x_aload_n C (v := .ref l0) rfl rfl dX4_readUnit_96 (f_getR1 C lX4_12 g1 rfl ea2 dX4_readUnit_97 (f_getLN C lX4_163 g3 rfl dX4_readUnit_100 (x_l2i C dX4_readUnit_103 (kk)))))))) ?_
  refine zX_call (as := [.ref l0, .int (0 : Int32), .int (0 : Int32), .int ((gL h a2 10).toInt32)]) (st := []) (fun C hM hc kk => f_callV C [.int (0 : Int32), .int (0 : Int32), .int ((gL h a2 10).toInt32)] hM kX4_addStep vX4_addStep lX4_196 ⟨by decide, by decide⟩ (rfl : vwCl[4]? = some (RX4, TX4, 14)) g1 rfl hc (Nat.le_of_ble_eq_true rfl) rfl dX4_readUnit_104 kk) (zC.mono H ?_)
  rintro r0 h4 ⟨rfl, H⟩
  show zX mX4_readUnit 107 [.ref l0, .int l1] [] h4 Q
  refine zX_seg (pc' := 108) (L' := [.ref l0, .int l1]) (st' := [.ref l0]) (h2 := h4) rfl rfl (fun C Cr hc kk => x_aload_n C (v := .ref l0) rfl rfl dX4_readUnit_107 (kk)) ?_
  obtain ⟨g5, H⟩ := H
  refine zX_call (as := [.ref l0]) (st := []) (fun C hM hc kk => f_callV C [] hM kX4_countUnit vX4_countUnit lX4_193 ⟨by decide, by decide⟩ (rfl : vwCl[4]? = some (RX4, TX4, 14)) g5 rfl hc (Nat.le_of_ble_eq_true rfl) rfl dX4_readUnit_108 kk) (zC.mono H ?_)
  rintro r0 h6 ⟨x7, rfl, H⟩
  show zX mX4_readUnit 111 [.ref l0, .int l1] [.int x7] h6 Q
  refine zX_br (p1 := 120) (p2 := 114) (st' := []) (x7 = 0) (fun C kt kf => x_if_eq C 120 dX4_readUnit_111 (by decide) kt kf) (fun q8 => ?_) (fun q8 => ?_)
  · replace H := H.1 q8
    refine zX_seg (pc' := 121) (L' := [.ref l0, .int l1]) (st' := [.int (2 : Int32)]) (h2 := h6) rfl rfl (fun C Cr hc kk => x_iconst C (2 : Int32) (by decide) dX4_readUnit_120 (kk)) ?_
    exact zX_ret (some (.int (2 : Int32))) (fun C Cr hc => x_iret C Cr rfl rfl hc dX4_readUnit_121 ⟨rfl, rfl⟩) H
  · replace H := H.2 q8
    refine zX_seg (pc' := 116) (L' := [.ref l0, .int l1]) (st' := [.int l1, .ref l0]) (h2 := h6) rfl rfl (fun C Cr hc kk => x_aload_n C (v := .ref l0) rfl rfl dX4_readUnit_114 (x_iload_n C rfl dX4_readUnit_115 (kk))) ?_
    obtain ⟨g9, H⟩ := H
    refine zX_call (as := [.ref l0, .int l1]) (st := []) (fun C hM hc kk => f_callV C [.int l1] hM kX4_take vX4_take lX4_79 ⟨by decide, by decide⟩ (rfl : vwCl[4]? = some (RX4, TX4, 14)) g9 rfl hc (Nat.le_of_ble_eq_true rfl) rfl dX4_readUnit_116 kk) (zC.mono H ?_)
    rintro r0 h10 ⟨x11, rfl, H⟩
    show zX mX4_readUnit 119 [.ref l0, .int l1] [.int x11] h10 Q
    refine zX_seg (pc' := 121) (L' := [.ref l0, .int l1]) (st' := [.int (2 : Int32)]) (h2 := h10) rfl rfl (fun C Cr hc kk => x_pop C rfl dX4_readUnit_119 (x_iconst C (2 : Int32) (by decide) dX4_readUnit_120 (kk))) ?_
    exact zX_ret (some (.int (2 : Int32))) (fun C Cr hc => x_iret C Cr rfl rfl hc dX4_readUnit_121 ⟨rfl, rfl⟩) H
set_option maxHeartbeats 20000000 in
theorem bX4_readUnit_122 (l0 : Nat) (l1 : Int32) (h : zH) (Q : Option Value → zH → Prop) (H : oK h l0 4 ∧ (zC mX4_readVotes [.ref l0, .int l1] h (fun r0 h2 => r0 = none ∧ (Q (some (.int (2 : Int32))) h2)))) : zX mX4_readUnit 122 [.ref l0, .int l1] [] h Q := by
  refine zX_seg (pc' := 124) (L' := [.ref l0, .int l1]) (st' := [.int l1, .ref l0]) (h2 := h) rfl rfl (fun C Cr hc kk => x_aload_n C (v := .ref l0) rfl rfl dX4_readUnit_122 (x_iload_n C rfl dX4_readUnit_123 (kk))) ?_
  obtain ⟨g1, H⟩ := H
  refine zX_call (as := [.ref l0, .int l1]) (st := []) (fun C hM hc kk => f_callV C [.int l1] hM kX4_readVotes vX4_readVotes lX4_224 ⟨by decide, by decide⟩ (rfl : vwCl[4]? = some (RX4, TX4, 14)) g1 rfl hc (Nat.le_of_ble_eq_true rfl) rfl dX4_readUnit_124 kk) (zC.mono H ?_)
  rintro r0 h2 ⟨rfl, H⟩
  show zX mX4_readUnit 127 [.ref l0, .int l1] [] h2 Q
  refine zX_seg (pc' := 128) (L' := [.ref l0, .int l1]) (st' := [.int (2 : Int32)]) (h2 := h2) rfl rfl (fun C Cr hc kk => x_iconst C (2 : Int32) (by decide) dX4_readUnit_127 (kk)) ?_
  exact zX_ret (some (.int (2 : Int32))) (fun C Cr hc => x_iret C Cr rfl rfl hc dX4_readUnit_128 ⟨rfl, rfl⟩) H
set_option maxHeartbeats 20000000 in
theorem bX4_readUnit_129 (l0 : Nat) (h : zH) (Q : Option Value → zH → Prop) (H : oK h l0 4 ∧ (zC mX4_readIs [.ref l0] h (fun r0 h2 => r0 = none ∧ (Q (some (.int (2 : Int32))) h2)))) : zX mX4_readUnit 129 [.ref l0, .float 0] [] h Q := by
  refine zX_seg (pc' := 130) (L' := [.ref l0, .float 0]) (st' := [.ref l0]) (h2 := h) rfl rfl (fun C Cr hc kk => x_aload_n C (v := .ref l0) rfl rfl dX4_readUnit_129 (kk)) ?_
  obtain ⟨g1, H⟩ := H
  refine zX_call (as := [.ref l0]) (st := []) (fun C hM hc kk => f_callV C [] hM kX4_readIs vX4_readIs lX4_227 ⟨by decide, by decide⟩ (rfl : vwCl[4]? = some (RX4, TX4, 14)) g1 rfl hc (Nat.le_of_ble_eq_true rfl) rfl dX4_readUnit_130 kk) (zC.mono H ?_)
  rintro r0 h2 ⟨rfl, H⟩
  show zX mX4_readUnit 133 [.ref l0, .float 0] [] h2 Q
  refine zX_seg (pc' := 134) (L' := [.ref l0, .float 0]) (st' := [.int (2 : Int32)]) (h2 := h2) rfl rfl (fun C Cr hc kk => x_iconst C (2 : Int32) (by decide) dX4_readUnit_133 (kk)) ?_
  exact zX_ret (some (.int (2 : Int32))) (fun C Cr hc => x_iret C Cr rfl rfl hc dX4_readUnit_134 ⟨rfl, rfl⟩) H
set_option maxHeartbeats 20000000 in
theorem bX4_readUnit_135 (l0 : Nat) (h : zH) (Q : Option Value → zH → Prop) (H : oK h l0 4 ∧ (zC mX4_fail [.ref l0, .int (2 : Int32)] h (fun r0 h2 => ∃ x3 : Int32, r0 = some (.int x3) ∧ (Q (some (.int (4 : Int32))) h2)))) : zX mX4_readUnit 135 [.ref l0, .float 0] [] h Q := by
  refine zX_seg (pc' := 137) (L' := [.ref l0, .float 0]) (st' := [.int (2 : Int32), .ref l0]) (h2 := h) rfl rfl (fun C Cr hc kk => x_aload_n C (v := .ref l0) rfl rfl dX4_readUnit_135 (x_iconst C (2 : Int32) (by decide) dX4_readUnit_136 (kk))) ?_
  obtain ⟨g1, H⟩ := H
  refine zX_call (as := [.ref l0, .int (2 : Int32)]) (st := []) (fun C hM hc kk => f_callV C [.int (2 : Int32)] hM kX4_fail vX4_fail lX4_75 ⟨by decide, by decide⟩ (rfl : vwCl[4]? = some (RX4, TX4, 14)) g1 rfl hc (Nat.le_of_ble_eq_true rfl) rfl dX4_readUnit_137 kk) (zC.mono H ?_)
  rintro r0 h2 ⟨x3, rfl, H⟩
  show zX mX4_readUnit 140 [.ref l0, .float 0] [.int x3] h2 Q
  refine zX_seg (pc' := 142) (L' := [.ref l0, .float 0]) (st' := [.int (4 : Int32)]) (h2 := h2) rfl rfl (fun C Cr hc kk => x_pop C rfl dX4_readUnit_140 (x_iconst C (4 : Int32) (by decide) dX4_readUnit_141 (kk))) ?_
  exact zX_ret (some (.int (4 : Int32))) (fun C Cr hc => x_iret C Cr rfl rfl hc dX4_readUnit_142 ⟨rfl, rfl⟩) H
theorem nX4_readUnit (t : Nat) (h : zH) (Q : Option Value → zH → Prop) (H : zX mX4_readUnit 0 [.ref t, .float 0] [] h Q) : zC mX4_readUnit [.ref t] h Q := zC_of (by decide +kernel) (by simp) (Nat.le_of_ble_eq_true rfl) H
set_option maxHeartbeats 20000000 in
theorem bX4_readVotes_0 (t : Nat) (p0 : Int32) (h : zH) (Q : Option Value → zH → Prop) (H : oK h t 4 ∧ (zC mX4_countUnit [.ref t] h (fun r0 h2 => ∃ x3 : Int32, r0 = some (.int x3) ∧ ((x3 = 0 → (zX mX4_readVotes 45 [.ref t, .float 0, .int (0 : Int32), .float 0] [] h2 Q)) ∧ (¬ (x3 = 0) → (oK h2 t 4 ∧ (zC mX4_take [.ref t, .int p0] h2 (fun r0 h6 => ∃ x7 : Int32, r0 = some (.int x7) ∧ ((x7 = 0 → (zX mX4_readVotes 45 [.ref t, .float 0, .int (0 : Int32), .float 0] [] h6 Q)) ∧ (¬ (x7 = 0) → ((p0 = (17 : Int32) → (oK h6 t 4 ∧ (∃ a11 : Nat, gR h6 t 3 = some a11 ∧ (oK h6 a11 10 ∧ (∃ a13 : Nat, gR h6 a11 0 = some a13 ∧ (zC mX4_takeKnown [.ref t, .ref a13, .int (gI h6 a11 6), .int (0 : Int32)] h6 (fun r0 h14 => ∃ x15 : Int32, r0 = some (.int x15) ∧ (zX mX4_readVotes 45 [.ref t, .float 0, .int (x15 + (1 : Int32)), .float 0] [] h14 Q)))))))) ∧ (¬ (p0 = (17 : Int32)) → (zX mX4_readVotes 45 [.ref t, .float 0, .int (0 : Int32), .float 0] [] h6 Q))))))))))))) : zX mX4_readVotes 0 [.ref t, .int p0, .float 0, .float 0] [] h Q := by
  refine zX_seg (pc' := 3) (L' := [.ref t, .int p0, .int (0 : Int32), .float 0]) (st' := [.ref t]) (h2 := h) rfl rfl (fun C Cr hc kk => x_iconst C (0 : Int32) (by decide) dX4_readVotes_0 (x_istore_n C (by decide) dX4_readVotes_1 (x_aload_n C (v := .ref t) rfl rfl dX4_readVotes_2 (kk)))) ?_
  obtain ⟨g1, H⟩ := H
  refine zX_call (as := [.ref t]) (st := []) (fun C hM hc kk => f_callV C [] hM kX4_countUnit vX4_countUnit lX4_193 ⟨by decide, by decide⟩ (rfl : vwCl[4]? = some (RX4, TX4, 14)) g1 rfl hc (Nat.le_of_ble_eq_true rfl) rfl dX4_readVotes_3 kk) (zC.mono H ?_)
  rintro r0 h2 ⟨x3, rfl, H⟩
  show zX mX4_readVotes 6 [.ref t, .int p0, .int (0 : Int32), .float 0] [.int x3] h2 Q
  refine zX_br (p1 := 45) (p2 := 9) (st' := []) (x3 = 0) (fun C kt kf => x_if_eq C 45 dX4_readVotes_6 (by decide) kt kf) (fun q4 => ?_) (fun q4 => ?_)
  · replace H := H.1 q4
    exact zX_wk (wkK (wkD (wkK (wkD wkN)))) H
  · replace H := H.2 q4
    refine zX_seg (pc' := 11) (L' := [.ref t, .int p0, .int (0 : Int32), .float 0]) (st' := [.int p0, .ref t]) (h2 := h2) rfl rfl (fun C Cr hc kk => x_aload_n C (v := .ref t) rfl rfl dX4_readVotes_9 (x_iload_n C rfl dX4_readVotes_10 (kk))) ?_
    obtain ⟨g5, H⟩ := H
    refine zX_call (as := [.ref t, .int p0]) (st := []) (fun C hM hc kk => f_callV C [.int p0] hM kX4_take vX4_take lX4_79 ⟨by decide, by decide⟩ (rfl : vwCl[4]? = some (RX4, TX4, 14)) g5 rfl hc (Nat.le_of_ble_eq_true rfl) rfl dX4_readVotes_11 kk) (zC.mono H ?_)
    rintro r0 h6 ⟨x7, rfl, H⟩
    show zX mX4_readVotes 14 [.ref t, .int p0, .int (0 : Int32), .float 0] [.int x7] h6 Q
    refine zX_br (p1 := 45) (p2 := 17) (st' := []) (x7 = 0) (fun C kt kf => x_if_eq C 45 dX4_readVotes_14 (by decide) kt kf) (fun q8 => ?_) (fun q8 => ?_)
    · replace H := H.1 q8
      exact zX_wk (wkK (wkD (wkK (wkD wkN)))) H
    · replace H := H.2 q8
      refine zX_seg (pc' := 20) (L' := [.ref t, .int p0, .int (0 : Int32), .float 0]) (st' := [.int (17 : Int32), .int p0]) (h2 := h6) rfl rfl (fun C Cr hc kk => x_iload_n C rfl dX4_readVotes_17 (x_bipush C (17 : Int32) (by decide) dX4_readVotes_18 (kk))) ?_
      refine zX_br (p1 := 23) (p2 := 45) (st' := []) (p0 = (17 : Int32)) (fun C kt kf => x_icmp_ne C 45 dX4_readVotes_20 (by decide) kf kt) (fun q9 => ?_) (fun q9 => ?_)
      · replace H := H.1 q9
        obtain ⟨g10, H⟩ := H
        obtain ⟨a11, ea11, H⟩ := H
        obtain ⟨g12, H⟩ := H
        obtain ⟨a13, ea13, H⟩ := H
        refine zX_seg (pc' := 39) (L' := [.ref t, .int p0, .int (0 : Int32), .float 0]) (st' := [.int (0 : Int32), .int (gI h6 a11 6), .ref a13, .ref t]) (h2 := h6) rfl rfl (fun C Cr hc kk => x_aload_n C (v := .ref t) rfl rfl dX4_readVotes_23 (x_aload_n C (v := .ref t) rfl rfl dX4_readVotes_24 (f_getR1 C lX4_60 g10 rfl ea11 dX4_readVotes_25 (f_getR1N C lX4_139 g12 rfl ea13 dX4_readVotes_28 (x_aload_n C (v := .ref t) rfl rfl dX4_readVotes_31 (f_getR1 C lX4_60 g10 rfl ea11 dX4_readVotes_32 (f_getIN C lX4_136 g12 rfl dX4_readVotes_35 (x_iconst C (0 : Int32) (by decide) dX4_readVotes_38 (kk))))))))) ?_
        refine zX_call (as := [.ref t, .ref a13, .int (gI h6 a11 6), .int (0 : Int32)]) (st := []) (fun C hM hc kk => f_callV C [.ref a13, .int (gI h6 a11 6), .int (0 : Int32)] hM kX4_takeKnown vX4_takeKnown lX4_159 ⟨by decide, by decide⟩ (rfl : vwCl[4]? = some (RX4, TX4, 14)) g10 rfl hc (Nat.le_of_ble_eq_true rfl) rfl dX4_readVotes_39 kk) (zC.mono H ?_)
        rintro r0 h14 ⟨x15, rfl, H⟩
        show zX mX4_readVotes 42 [.ref t, .int p0, .int (0 : Int32), .float 0] [.int x15] h14 Q
        refine zX_seg (pc' := 45) (L' := [.ref t, .int p0, .int (x15 + (1 : Int32)), .float 0]) (st' := []) (h2 := h14) rfl rfl (fun C Cr hc kk => x_iconst C (1 : Int32) (by decide) dX4_readVotes_42 (x_iadd C dX4_readVotes_43 (x_istore_n C (by decide) dX4_readVotes_44 (kk)))) ?_
        exact zX_wk (wkK (wkD (wkK (wkD wkN)))) H
      · replace H := H.2 q9
        exact zX_wk (wkK (wkD (wkK (wkD wkN)))) H
set_option maxHeartbeats 20000000 in
theorem bX4_readVotes_45 (l0 : Nat) (l2 : Int32) (h : zH) (Q : Option Value → zH → Prop) (H : oK h l0 4 ∧ (((gI h l0 12) = 0 → (zC mX4_takeStreet [.ref l0] h (fun r0 h3 => ∃ x4 : Int32, r0 = some (.int x4) ∧ (oK h3 l0 4 ∧ (zC mX4_addStep [.ref l0, .int (1 : Int32), .int x4, .int l2] h3 (fun r0 h6 => r0 = none ∧ (Q none h6))))))) ∧ (¬ ((gI h l0 12) = 0) → (zC mX4_addStep [.ref l0, .int (1 : Int32), .int (-1 : Int32), .int l2] h (fun r0 h7 => r0 = none ∧ (Q none h7)))))) : zX mX4_readVotes 45 [.ref l0, .float 0, .int l2, .float 0] [] h Q := by
  obtain ⟨g1, H⟩ := H
  refine zX_seg (pc' := 49) (L' := [.ref l0, .float 0, .int l2, .float 0]) (st' := [.int (gI h l0 12)]) (h2 := h) rfl rfl (fun C Cr hc kk => x_aload_n C (v := .ref l0) rfl rfl dX4_readVotes_45 (f_getI C lX4_38 g1 rfl dX4_readVotes_46 (kk))) ?_
  refine zX_br (p1 := 52) (p2 := 59) (st' := []) ((gI h l0 12) = 0) (fun C kt kf => x_if_ne C 59 dX4_readVotes_49 (by decide) kf kt) (fun q2 => ?_) (fun q2 => ?_)
  · replace H := H.1 q2
    refine zX_seg (pc' := 53) (L' := [.ref l0, .float 0, .int l2, .float 0]) (st' := [.ref l0]) (h2 := h) rfl rfl (fun C Cr hc kk => x_aload_n C (v := .ref l0) rfl rfl dX4_readVotes_52 (kk)) ?_
    refine zX_call (as := [.ref l0]) (st := []) (fun C hM hc kk => f_callV C [] hM kX4_takeStreet vX4_takeStreet lX4_203 ⟨by decide, by decide⟩ (rfl : vwCl[4]? = some (RX4, TX4, 14)) g1 rfl hc (Nat.le_of_ble_eq_true rfl) rfl dX4_readVotes_53 kk) (zC.mono H ?_)
    rintro r0 h3 ⟨x4, rfl, H⟩
    show zX mX4_readVotes 56 [.ref l0, .float 0, .int l2, .float 0] [.int x4] h3 Q
    refine zX_seg (pc' := 65) (L' := [.ref l0, .float 0, .int l2, .int x4]) (st' := [.int l2, .int x4, .int (1 : Int32), .ref l0]) (h2 := h3) rfl rfl (fun C Cr hc kk => x_goto C 60 dX4_readVotes_56 (by decide) (x_istore_n C (by decide) dX4_readVotes_60 (x_aload_n C (v := .ref l0) rfl rfl dX4_readVotes_61 (x_iconst C (1 : Int32) (by decide) dX4_readVotes_62 (x_iload_n C rfl dX4_readVotes_63 (x_iload_n C rfl dX4_readVotes_64 (kk))))))) ?_
    obtain ⟨g5, H⟩ := H
    refine zX_call (as := [.ref l0, .int (1 : Int32), .int x4, .int l2]) (st := []) (fun C hM hc kk => f_callV C [.int (1 : Int32), .int x4, .int l2] hM kX4_addStep vX4_addStep lX4_196 ⟨by decide, by decide⟩ (rfl : vwCl[4]? = some (RX4, TX4, 14)) g5 rfl hc (Nat.le_of_ble_eq_true rfl) rfl dX4_readVotes_65 kk) (zC.mono H ?_)
    rintro r0 h6 ⟨rfl, H⟩
    show zX mX4_readVotes 68 [.ref l0, .float 0, .int l2, .int x4] [] h6 Q
    exact zX_ret none (fun C Cr hc => x_ret C Cr rfl hc dX4_readVotes_68 ⟨rfl, rfl⟩) H
  · replace H := H.2 q2
    refine zX_seg (pc' := 65) (L' := [.ref l0, .float 0, .int l2, .int (-1 : Int32)]) (st' := [.int l2, .int (-1 : Int32), .int (1 : Int32), .ref l0]) (h2 := h) rfl rfl (fun C Cr hc kk => x_iconst C (-1 : Int32) (by decide) dX4_readVotes_59 (x_istore_n C (by decide) dX4_readVotes_60 (x_aload_n C (v := .ref l0) rfl rfl dX4_readVotes_61 (x_iconst C (1 : Int32) (by decide) dX4_readVotes_62 (x_iload_n C rfl dX4_readVotes_63 (x_iload_n C rfl dX4_readVotes_64 (kk))))))) ?_
    refine zX_call (as := [.ref l0, .int (1 : Int32), .int (-1 : Int32), .int l2]) (st := []) (fun C hM hc kk => f_callV C [.int (1 : Int32), .int (-1 : Int32), .int l2] hM kX4_addStep vX4_addStep lX4_196 ⟨by decide, by decide⟩ (rfl : vwCl[4]? = some (RX4, TX4, 14)) g1 rfl hc (Nat.le_of_ble_eq_true rfl) rfl dX4_readVotes_65 kk) (zC.mono H ?_)
    rintro r0 h7 ⟨rfl, H⟩
    show zX mX4_readVotes 68 [.ref l0, .float 0, .int l2, .int (-1 : Int32)] [] h7 Q
    exact zX_ret none (fun C Cr hc => x_ret C Cr rfl hc dX4_readVotes_68 ⟨rfl, rfl⟩) H
theorem nX4_readVotes (t : Nat) (p0 : Int32) (h : zH) (Q : Option Value → zH → Prop) (H : zX mX4_readVotes 0 [.ref t, .int p0, .float 0, .float 0] [] h Q) : zC mX4_readVotes [.ref t, .int p0] h Q := zC_of (by decide +kernel) (by simp) (Nat.le_of_ble_eq_true rfl) H
set_option maxHeartbeats 20000000 in
theorem bX4_readIs_0 (t : Nat) (h : zH) (Q : Option Value → zH → Prop) (H : oK h t 4 ∧ (zC mX4_countUnit [.ref t] h (fun r0 h2 => ∃ x3 : Int32, r0 = some (.int x3) ∧ ((x3 = 0 → (zX mX4_readIs 23 [.ref t, .float 0, .float 0] [] h2 Q)) ∧ (¬ (x3 = 0) → (oK h2 t 4 ∧ (zC mX4_take [.ref t, .int (19 : Int32)] h2 (fun r0 h6 => ∃ x7 : Int32, r0 = some (.int x7) ∧ ((x7 = 0 → (zX mX4_readIs 23 [.ref t, .float 0, .float 0] [] h6 Q)) ∧ (¬ (x7 = 0) → (oK h6 t 4 ∧ (zC mX4_takeOther [.ref t] h6 (fun r0 h10 => ∃ x11 : Int32, r0 = some (.int x11) ∧ (zX mX4_readIs 24 [.ref t, .float 0, .float 0] [.int x11] h10 Q)))))))))))))) : zX mX4_readIs 0 [.ref t, .float 0, .float 0] [] h Q := by
  refine zX_seg (pc' := 1) (L' := [.ref t, .float 0, .float 0]) (st' := [.ref t]) (h2 := h) rfl rfl (fun C Cr hc kk => x_aload_n C (v := .ref t) rfl rfl dX4_readIs_0 (kk)) ?_
  obtain ⟨g1, H⟩ := H
  refine zX_call (as := [.ref t]) (st := []) (fun C hM hc kk => f_callV C [] hM kX4_countUnit vX4_countUnit lX4_193 ⟨by decide, by decide⟩ (rfl : vwCl[4]? = some (RX4, TX4, 14)) g1 rfl hc (Nat.le_of_ble_eq_true rfl) rfl dX4_readIs_1 kk) (zC.mono H ?_)
  rintro r0 h2 ⟨x3, rfl, H⟩
  show zX mX4_readIs 4 [.ref t, .float 0, .float 0] [.int x3] h2 Q
  refine zX_br (p1 := 23) (p2 := 7) (st' := []) (x3 = 0) (fun C kt kf => x_if_eq C 23 dX4_readIs_4 (by decide) kt kf) (fun q4 => ?_) (fun q4 => ?_)
  · replace H := H.1 q4
    exact zX_wk (wkK (wkD (wkD wkN))) H
  · replace H := H.2 q4
    refine zX_seg (pc' := 10) (L' := [.ref t, .float 0, .float 0]) (st' := [.int (19 : Int32), .ref t]) (h2 := h2) rfl rfl (fun C Cr hc kk => x_aload_n C (v := .ref t) rfl rfl dX4_readIs_7 (x_bipush C (19 : Int32) (by decide) dX4_readIs_8 (kk))) ?_
    obtain ⟨g5, H⟩ := H
    refine zX_call (as := [.ref t, .int (19 : Int32)]) (st := []) (fun C hM hc kk => f_callV C [.int (19 : Int32)] hM kX4_take vX4_take lX4_79 ⟨by decide, by decide⟩ (rfl : vwCl[4]? = some (RX4, TX4, 14)) g5 rfl hc (Nat.le_of_ble_eq_true rfl) rfl dX4_readIs_10 kk) (zC.mono H ?_)
    rintro r0 h6 ⟨x7, rfl, H⟩
    show zX mX4_readIs 13 [.ref t, .float 0, .float 0] [.int x7] h6 Q
    refine zX_br (p1 := 23) (p2 := 16) (st' := []) (x7 = 0) (fun C kt kf => x_if_eq C 23 dX4_readIs_13 (by decide) kt kf) (fun q8 => ?_) (fun q8 => ?_)
    · replace H := H.1 q8
      exact zX_wk (wkK (wkD (wkD wkN))) H
    · replace H := H.2 q8
      refine zX_seg (pc' := 17) (L' := [.ref t, .float 0, .float 0]) (st' := [.ref t]) (h2 := h6) rfl rfl (fun C Cr hc kk => x_aload_n C (v := .ref t) rfl rfl dX4_readIs_16 (kk)) ?_
      obtain ⟨g9, H⟩ := H
      refine zX_call (as := [.ref t]) (st := []) (fun C hM hc kk => f_callV C [] hM kX4_takeOther vX4_takeOther lX4_200 ⟨by decide, by decide⟩ (rfl : vwCl[4]? = some (RX4, TX4, 14)) g9 rfl hc (Nat.le_of_ble_eq_true rfl) rfl dX4_readIs_17 kk) (zC.mono H ?_)
      rintro r0 h10 ⟨x11, rfl, H⟩
      show zX mX4_readIs 20 [.ref t, .float 0, .float 0] [.int x11] h10 Q
      refine zX_seg (pc' := 24) (L' := [.ref t, .float 0, .float 0]) (st' := [.int x11]) (h2 := h10) rfl rfl (fun C Cr hc kk => x_goto C 24 dX4_readIs_20 (by decide) (kk)) ?_
      exact zX_wk (wkK (wkD (wkD wkN))) H
set_option maxHeartbeats 20000000 in
theorem bX4_readIs_23 (l0 : Nat) (h : zH) (Q : Option Value → zH → Prop) (H : zX mX4_readIs 24 [.ref l0, .float 0, .float 0] [.int (-1 : Int32)] h Q) : zX mX4_readIs 23 [.ref l0, .float 0, .float 0] [] h Q := by
  refine zX_seg (pc' := 24) (L' := [.ref l0, .float 0, .float 0]) (st' := [.int (-1 : Int32)]) (h2 := h) rfl rfl (fun C Cr hc kk => x_iconst C (-1 : Int32) (by decide) dX4_readIs_23 (kk)) ?_
  exact zX_wk (wkK (wkD (wkD wkN))) H
set_option maxHeartbeats 20000000 in
theorem bX4_readIs_24 (l0 : Nat) (s0 : Int32) (h : zH) (Q : Option Value → zH → Prop) (H : (s0 < 0 → (oK h l0 4 ∧ (zC mX4_addStep [.ref l0, .int (2 : Int32), .int ((-1 : Int32) + (1 : Int32)), .int s0] h (fun r0 h3 => r0 = none ∧ (Q none h3))))) ∧ (¬ (s0 < 0) → (oK h l0 4 ∧ (∃ a5 : Nat, gR h l0 3 = some a5 ∧ (oK h a5 10 ∧ (∃ a7 : Nat, gR h a5 0 = some a7 ∧ (zC mX4_takeKnown [.ref l0, .ref a7, .int (gI h a5 6), .int (0 : Int32)] h (fun r0 h8 => ∃ x9 : Int32, r0 = some (.int x9) ∧ (oK h8 l0 4 ∧ (zC mX4_addStep [.ref l0, .int (2 : Int32), .int (x9 + (1 : Int32)), .int s0] h8 (fun r0 h11 => r0 = none ∧ (Q none h11)))))))))))) : zX mX4_readIs 24 [.ref l0, .float 0, .float 0] [.int s0] h Q := by
  refine zX_seg (pc' := 26) (L' := [.ref l0, .int s0, .float 0]) (st' := [.int s0]) (h2 := h) rfl rfl (fun C Cr hc kk => x_istore_n C (by decide) dX4_readIs_24 (x_iload_n C rfl dX4_readIs_25 (kk))) ?_
  refine zX_br (p1 := 51) (p2 := 29) (st' := []) (s0 < 0) (fun C kt kf => x_if_lt C 51 dX4_readIs_26 (by decide) kt kf) (fun q1 => ?_) (fun q1 => ?_)
  · replace H := H.1 q1
    refine zX_seg (pc' := 59) (L' := [.ref l0, .int s0, .int (-1 : Int32)]) (st' := [.int s0, .int ((-1 : Int32) + (1 : Int32)), .int (2 : Int32), .ref l0]) (h2 := h) rfl rfl (fun C Cr hc kk => x_iconst C (-1 : Int32) (by decide) dX4_readIs_51 (x_istore_n C (by decide) dX4_readIs_52 (x_aload_n C (v := .ref l0) rfl rfl dX4_readIs_53 (x_iconst C (2 : Int32) (by decide) dX4_readIs_54 (x_iload_n C rfl dX4_readIs_55 (x_iconst C (1 : Int32) (by decide) dX4_readIs_56 (x_iadd C dX4_readIs_57 (x_iload_n C rfl dX4_readIs_58 (kk))))))))) ?_
    obtain ⟨g2, H⟩ := H
    refine zX_call (as := [.ref l0, .int (2 : Int32), .int ((-1 : Int32) + (1 : Int32)), .int s0]) (st := []) (fun C hM hc kk => f_callV C [.int (2 : Int32), .int ((-1 : Int32) + (1 : Int32)), .int s0] hM kX4_addStep vX4_addStep lX4_196 ⟨by decide, by decide⟩ (rfl : vwCl[4]? = some (RX4, TX4, 14)) g2 rfl hc (Nat.le_of_ble_eq_true rfl) rfl dX4_readIs_59 kk) (zC.mono H ?_)
    rintro r0 h3 ⟨rfl, H⟩
    show zX mX4_readIs 62 [.ref l0, .int s0, .int (-1 : Int32)] [] h3 Q
    exact zX_ret none (fun C Cr hc => x_ret C Cr rfl hc dX4_readIs_62 ⟨rfl, rfl⟩) H
  · replace H := H.2 q1
    obtain ⟨g4, H⟩ := H
    obtain ⟨a5, ea5, H⟩ := H
    obtain ⟨g6, H⟩ := H
    obtain ⟨a7, ea7, H⟩ := H
    refine zX_seg (pc' := 45) (L' := [.ref l0, .int s0, .float 0]) (st' := [.int (0 : Int32), .int (gI h a5 6), .ref a7, .ref l0]) (h2 := h) rfl rfl (fun C Cr hc kk => x_aload_n C (v := .ref l0) rfl rfl dX4_readIs_29 (x_aload_n C (v := .ref l0) rfl rfl dX4_readIs_30 (f_getR1 C lX4_60 g4 rfl ea5 dX4_readIs_31 (f_getR1N C lX4_139 g6 rfl ea7 dX4_readIs_34 (x_aload_n C (v := .ref l0) rfl rfl dX4_readIs_37 (f_getR1 C lX4_60 g4 rfl ea5 dX4_readIs_38 (f_getIN C lX4_136 g6 rfl dX4_readIs_41 (x_iconst C (0 : Int32) (by decide) dX4_readIs_44 (kk))))))))) ?_
    refine zX_call (as := [.ref l0, .ref a7, .int (gI h a5 6), .int (0 : Int32)]) (st := []) (fun C hM hc kk => f_callV C [.ref a7, .int (gI h a5 6), .int (0 : Int32)] hM kX4_takeKnown vX4_takeKnown lX4_159 ⟨by decide, by decide⟩ (rfl : vwCl[4]? = some (RX4, TX4, 14)) g4 rfl hc (Nat.le_of_ble_eq_true rfl) rfl dX4_readIs_45 kk) (zC.mono H ?_)
    rintro r0 h8 ⟨x9, rfl, H⟩
    show zX mX4_readIs 48 [.ref l0, .int s0, .float 0] [.int x9] h8 Q
    refine zX_seg (pc' := 59) (L' := [.ref l0, .int s0, .int x9]) (st' := [.int s0, .int (x9 + (1 : Int32)), .int (2 : Int32), .ref l0]) (h2 := h8) rfl rfl (fun C Cr hc kk => x_goto C 52 dX4_readIs_48 (by decide) (x_istore_n C (by decide) dX4_readIs_52 (x_aload_n C (v := .ref l0) rfl rfl dX4_readIs_53 (x_iconst C (2 : Int32) (by decide) dX4_readIs_54 (x_iload_n C rfl dX4_readIs_55 (x_iconst C (1 : Int32) (by decide) dX4_readIs_56 (x_iadd C dX4_readIs_57 (x_iload_n C rfl dX4_readIs_58 (kk))))))))) ?_
    obtain ⟨g10, H⟩ := H
    refine zX_call (as := [.ref l0, .int (2 : Int32), .int (x9 + (1 : Int32)), .int s0]) (st := []) (fun C hM hc kk => f_callV C [.int (2 : Int32), .int (x9 + (1 : Int32)), .int s0] hM kX4_addStep vX4_addStep lX4_196 ⟨by decide, by decide⟩ (rfl : vwCl[4]? = some (RX4, TX4, 14)) g10 rfl hc (Nat.le_of_ble_eq_true rfl) rfl dX4_readIs_59 kk) (zC.mono H ?_)
    rintro r0 h11 ⟨rfl, H⟩
    show zX mX4_readIs 62 [.ref l0, .int s0, .int x9] [] h11 Q
    exact zX_ret none (fun C Cr hc => x_ret C Cr rfl hc dX4_readIs_62 ⟨rfl, rfl⟩) H
theorem nX4_readIs (t : Nat) (h : zH) (Q : Option Value → zH → Prop) (H : zX mX4_readIs 0 [.ref t, .float 0, .float 0] [] h Q) : zC mX4_readIs [.ref t] h Q := zC_of (by decide +kernel) (by simp) (Nat.le_of_ble_eq_true rfl) H
set_option maxHeartbeats 20000000 in
theorem bX4_readSign_0 (t : Nat) (h : zH) (Q : Option Value → zH → Prop) (H : oK h t 4 ∧ (∃ a2 : Nat, gR h t 0 = some a2 ∧ (oK h a2 8 ∧ (((gI h a2 8) = 7 → (zX mX4_readSign 168 [.ref t] [] h Q)) ∧ (((gI h a2 8) = 14 → (zX mX4_readSign 156 [.ref t] [] h Q)) ∧ (((gI h a2 8) = 15 → (zX mX4_readSign 149 [.ref t] [] h Q)) ∧ (((gI h a2 8) = 24 → (zX mX4_readSign 163 [.ref t] [] h Q)) ∧ (((gI h a2 8) = 25 → (zX mX4_readSign 128 [.ref t] [] h Q)) ∧ (((gI h a2 8) = 26 → (zX mX4_readSign 135 [.ref t] [] h Q)) ∧ (((gI h a2 8) = 27 → (zX mX4_readSign 142 [.ref t] [] h Q)) ∧ (((gI h a2 8) = 28 → (zX mX4_readSign 112 [.ref t] [] h Q)) ∧ (((gI h a2 8) = 29 → (zX mX4_readSign 120 [.ref t] [] h Q)) ∧ (¬ (gI h a2 8) = 7 → ¬ (gI h a2 8) = 14 → ¬ (gI h a2 8) = 15 → ¬ (gI h a2 8) = 24 → ¬ (gI h a2 8) = 25 → ¬ (gI h a2 8) = 26 → ¬ (gI h a2 8) = 27 → ¬ (gI h a2 8) = 28 → ¬ (gI h a2 8) = 29 → (zX mX4_readSign 173 [.ref t] [] h Q)))))))))))))) : zX mX4_readSign 0 [.ref t] [] h Q := by
  obtain ⟨g1, H⟩ := H
  obtain ⟨a2, ea2, H⟩ := H
  obtain ⟨g3, H⟩ := H
  refine zX_seg (pc' := (ztt 7 166 7 29 [161, 166, 166, 166, 166, 166, 166, 149, 142, 166, 166, 166, 166, 166, 166, 166, 166, 156, 121, 128, 135, 105, 113] (gI h a2 8))) (L' := [.ref t]) (st' := []) (h2 := h) rfl rfl (fun C Cr hc kk => x_aload_n C (v := .ref t) rfl rfl dX4_readSign_0 (f_getR1 C lX4_12 g1 rfl ea2 dX4_readSign_1 (f_getIN C lX4_41 g3 rfl dX4_readSign_4 (f_table C ⟨⟨by decide, by decide⟩, by decide⟩ dX4_readSign_7 (kk))))) ?_
  by_cases z4 : (gI h a2 8) = 7
  · replace H := H.1 z4
    rw [show (ztt 7 166 7 29 [161, 166, 166, 166, 166, 166, 166, 149, 142, 166, 166, 166, 166, 166, 166, 166, 166, 156, 121, 128, 135, 105, 113] (gI h a2 8)) = 168 from by rw [z4]; decide]
    exact zX_wk (wkK wkN) H
  · replace H := H.2
    by_cases z5 : (gI h a2 8) = 14
    · replace H := H.1 z5
      rw [show (ztt 7 166 7 29 [161, 166, 166, 166, 166, 166, 166, 149, 142, 166, 166, 166, 166, 166, 166, 166, 166, 156, 121, 128, 135, 105, 113] (gI h a2 8)) = 156 from by rw [z5]; decide]
      exact zX_wk (wkK wkN) H
    · replace H := H.2
      by_cases z6 : (gI h a2 8) = 15
      · replace H := H.1 z6
        rw [show (ztt 7 166 7 29 [161, 166, 166, 166, 166, 166, 166, 149, 142, 166, 166, 166, 166, 166, 166, 166, 166, 156, 121, 128, 135, 105, 113] (gI h a2 8)) = 149 from by rw [z6]; decide]
        exact zX_wk (wkK wkN) H
      · replace H := H.2
        by_cases z7 : (gI h a2 8) = 24
        · replace H := H.1 z7
          rw [show (ztt 7 166 7 29 [161, 166, 166, 166, 166, 166, 166, 149, 142, 166, 166, 166, 166, 166, 166, 166, 166, 156, 121, 128, 135, 105, 113] (gI h a2 8)) = 163 from by rw [z7]; decide]
          exact zX_wk (wkK wkN) H
        · replace H := H.2
          by_cases z8 : (gI h a2 8) = 25
          · replace H := H.1 z8
            rw [show (ztt 7 166 7 29 [161, 166, 166, 166, 166, 166, 166, 149, 142, 166, 166, 166, 166, 166, 166, 166, 166, 156, 121, 128, 135, 105, 113] (gI h a2 8)) = 128 from by rw [z8]; decide]
            exact zX_wk (wkK wkN) H
          · replace H := H.2
            by_cases z9 : (gI h a2 8) = 26
            · replace H := H.1 z9
              rw [show (ztt 7 166 7 29 [161, 166, 166, 166, 166, 166, 166, 149, 142, 166, 166, 166, 166, 166, 166, 166, 166, 156, 121, 128, 135, 105, 113] (gI h a2 8)) = 135 from by rw [z9]; decide]
              exact zX_wk (wkK wkN) H
            · replace H := H.2
              by_cases z10 : (gI h a2 8) = 27
              · replace H := H.1 z10
                rw [show (ztt 7 166 7 29 [161, 166, 166, 166, 166, 166, 166, 149, 142, 166, 166, 166, 166, 166, 166, 166, 166, 156, 121, 128, 135, 105, 113] (gI h a2 8)) = 142 from by rw [z10]; decide]
                exact zX_wk (wkK wkN) H
              · replace H := H.2
                by_cases z11 : (gI h a2 8) = 28
                · replace H := H.1 z11
                  rw [show (ztt 7 166 7 29 [161, 166, 166, 166, 166, 166, 166, 149, 142, 166, 166, 166, 166, 166, 166, 166, 166, 156, 121, 128, 135, 105, 113] (gI h a2 8)) = 112 from by rw [z11]; decide]
                  exact zX_wk (wkK wkN) H
                · replace H := H.2
                  by_cases z12 : (gI h a2 8) = 29
                  · replace H := H.1 z12
                    rw [show (ztt 7 166 7 29 [161, 166, 166, 166, 166, 166, 166, 149, 142, 166, 166, 166, 166, 166, 166, 166, 166, 156, 121, 128, 135, 105, 113] (gI h a2 8)) = 120 from by rw [z12]; decide]
                    exact zX_wk (wkK wkN) H
                  · replace H := H.2
                    rw [show (ztt 7 166 7 29 [161, 166, 166, 166, 166, 166, 166, 149, 142, 166, 166, 166, 166, 166, 166, 166, 166, 156, 121, 128, 135, 105, 113] (gI h a2 8)) = 173 from (ztt_d [7, 14, 15, 24, 25, 26, 27, 28, 29] (by decide) (by decide) (List.forall_mem_cons.mpr ⟨z4, (List.forall_mem_cons.mpr ⟨z5, (List.forall_mem_cons.mpr ⟨z6, (List.forall_mem_cons.mpr ⟨z7, (List.forall_mem_cons.mpr ⟨z8, (List.forall_mem_cons.mpr ⟨z9, (List.forall_mem_cons.mpr ⟨z10, (List.forall_mem_cons.mpr ⟨z11, (List.forall_mem_cons.mpr ⟨z12, (fun _ h => absurd h List.not_mem_nil)⟩)⟩)⟩)⟩)⟩)⟩)⟩)⟩)⟩)).trans (by decide)]
                    replace H := H z4 z5 z6 z7 z8 z9 z10 z11 z12
                    exact zX_wk (wkK wkN) H
set_option maxHeartbeats 20000000 in
theorem bX4_readSign_112 (l0 : Nat) (h : zH) (Q : Option Value → zH → Prop) (H : oK h l0 4 ∧ (zC mX4_joinBy [.ref l0, .int (10 : Int32), .int (5 : Int32)] h (fun r0 h2 => ∃ x3 : Int32, r0 = some (.int x3) ∧ (Q (some (.int x3)) h2)))) : zX mX4_readSign 112 [.ref l0] [] h Q := by
  refine zX_seg (pc' := 116) (L' := [.ref l0]) (st' := [.int (5 : Int32), .int (10 : Int32), .ref l0]) (h2 := h) rfl rfl (fun C Cr hc kk => x_aload_n C (v := .ref l0) rfl rfl dX4_readSign_112 (x_bipush C (10 : Int32) (by decide) dX4_readSign_113 (x_iconst C (5 : Int32) (by decide) dX4_readSign_115 (kk)))) ?_
  obtain ⟨g1, H⟩ := H
  refine zX_call (as := [.ref l0, .int (10 : Int32), .int (5 : Int32)]) (st := []) (fun C hM hc kk => f_callV C [.int (10 : Int32), .int (5 : Int32)] hM kX4_joinBy vX4_joinBy lX4_230 ⟨by decide, by decide⟩ (rfl : vwCl[4]? = some (RX4, TX4, 14)) g1 rfl hc (Nat.le_of_ble_eq_true rfl) rfl dX4_readSign_116 kk) (zC.mono H ?_)
  rintro r0 h2 ⟨x3, rfl, H⟩
  show zX mX4_readSign 119 [.ref l0] [.int x3] h2 Q
  exact zX_ret (some (.int x3)) (fun C Cr hc => x_iret C Cr rfl rfl hc dX4_readSign_119 ⟨rfl, rfl⟩) H
set_option maxHeartbeats 20000000 in
theorem bX4_readSign_120 (l0 : Nat) (h : zH) (Q : Option Value → zH → Prop) (H : oK h l0 4 ∧ (zC mX4_joinBy [.ref l0, .int (11 : Int32), .int (5 : Int32)] h (fun r0 h2 => ∃ x3 : Int32, r0 = some (.int x3) ∧ (Q (some (.int x3)) h2)))) : zX mX4_readSign 120 [.ref l0] [] h Q := by
  refine zX_seg (pc' := 124) (L' := [.ref l0]) (st' := [.int (5 : Int32), .int (11 : Int32), .ref l0]) (h2 := h) rfl rfl (fun C Cr hc kk => x_aload_n C (v := .ref l0) rfl rfl dX4_readSign_120 (x_bipush C (11 : Int32) (by decide) dX4_readSign_121 (x_iconst C (5 : Int32) (by decide) dX4_readSign_123 (kk)))) ?_
  obtain ⟨g1, H⟩ := H
  refine zX_call (as := [.ref l0, .int (11 : Int32), .int (5 : Int32)]) (st := []) (fun C hM hc kk => f_callV C [.int (11 : Int32), .int (5 : Int32)] hM kX4_joinBy vX4_joinBy lX4_230 ⟨by decide, by decide⟩ (rfl : vwCl[4]? = some (RX4, TX4, 14)) g1 rfl hc (Nat.le_of_ble_eq_true rfl) rfl dX4_readSign_124 kk) (zC.mono H ?_)
  rintro r0 h2 ⟨x3, rfl, H⟩
  show zX mX4_readSign 127 [.ref l0] [.int x3] h2 Q
  exact zX_ret (some (.int x3)) (fun C Cr hc => x_iret C Cr rfl rfl hc dX4_readSign_127 ⟨rfl, rfl⟩) H
set_option maxHeartbeats 20000000 in
theorem bX4_readSign_128 (l0 : Nat) (h : zH) (Q : Option Value → zH → Prop) (H : oK h l0 4 ∧ (zC mX4_relateBy [.ref l0, .int (7 : Int32)] h (fun r0 h2 => ∃ x3 : Int32, r0 = some (.int x3) ∧ (Q (some (.int x3)) h2)))) : zX mX4_readSign 128 [.ref l0] [] h Q := by
  refine zX_seg (pc' := 131) (L' := [.ref l0]) (st' := [.int (7 : Int32), .ref l0]) (h2 := h) rfl rfl (fun C Cr hc kk => x_aload_n C (v := .ref l0) rfl rfl dX4_readSign_128 (x_bipush C (7 : Int32) (by decide) dX4_readSign_129 (kk))) ?_
  obtain ⟨g1, H⟩ := H
  refine zX_call (as := [.ref l0, .int (7 : Int32)]) (st := []) (fun C hM hc kk => f_callV C [.int (7 : Int32)] hM kX4_relateBy vX4_relateBy lX4_233 ⟨by decide, by decide⟩ (rfl : vwCl[4]? = some (RX4, TX4, 14)) g1 rfl hc (Nat.le_of_ble_eq_true rfl) rfl dX4_readSign_131 kk) (zC.mono H ?_)
  rintro r0 h2 ⟨x3, rfl, H⟩
  show zX mX4_readSign 134 [.ref l0] [.int x3] h2 Q
  exact zX_ret (some (.int x3)) (fun C Cr hc => x_iret C Cr rfl rfl hc dX4_readSign_134 ⟨rfl, rfl⟩) H
set_option maxHeartbeats 20000000 in
theorem bX4_readSign_135 (l0 : Nat) (h : zH) (Q : Option Value → zH → Prop) (H : oK h l0 4 ∧ (zC mX4_relateBy [.ref l0, .int (8 : Int32)] h (fun r0 h2 => ∃ x3 : Int32, r0 = some (.int x3) ∧ (Q (some (.int x3)) h2)))) : zX mX4_readSign 135 [.ref l0] [] h Q := by
  refine zX_seg (pc' := 138) (L' := [.ref l0]) (st' := [.int (8 : Int32), .ref l0]) (h2 := h) rfl rfl (fun C Cr hc kk => x_aload_n C (v := .ref l0) rfl rfl dX4_readSign_135 (x_bipush C (8 : Int32) (by decide) dX4_readSign_136 (kk))) ?_
  obtain ⟨g1, H⟩ := H
  refine zX_call (as := [.ref l0, .int (8 : Int32)]) (st := []) (fun C hM hc kk => f_callV C [.int (8 : Int32)] hM kX4_relateBy vX4_relateBy lX4_233 ⟨by decide, by decide⟩ (rfl : vwCl[4]? = some (RX4, TX4, 14)) g1 rfl hc (Nat.le_of_ble_eq_true rfl) rfl dX4_readSign_138 kk) (zC.mono H ?_)
  rintro r0 h2 ⟨x3, rfl, H⟩
  show zX mX4_readSign 141 [.ref l0] [.int x3] h2 Q
  exact zX_ret (some (.int x3)) (fun C Cr hc => x_iret C Cr rfl rfl hc dX4_readSign_141 ⟨rfl, rfl⟩) H
set_option maxHeartbeats 20000000 in
theorem bX4_readSign_142 (l0 : Nat) (h : zH) (Q : Option Value → zH → Prop) (H : oK h l0 4 ∧ (zC mX4_relateBy [.ref l0, .int (9 : Int32)] h (fun r0 h2 => ∃ x3 : Int32, r0 = some (.int x3) ∧ (Q (some (.int x3)) h2)))) : zX mX4_readSign 142 [.ref l0] [] h Q := by
  refine zX_seg (pc' := 145) (L' := [.ref l0]) (st' := [.int (9 : Int32), .ref l0]) (h2 := h) rfl rfl (fun C Cr hc kk => x_aload_n C (v := .ref l0) rfl rfl dX4_readSign_142 (x_bipush C (9 : Int32) (by decide) dX4_readSign_143 (kk))) ?_
  obtain ⟨g1, H⟩ := H
  refine zX_call (as := [.ref l0, .int (9 : Int32)]) (st := []) (fun C hM hc kk => f_callV C [.int (9 : Int32)] hM kX4_relateBy vX4_relateBy lX4_233 ⟨by decide, by decide⟩ (rfl : vwCl[4]? = some (RX4, TX4, 14)) g1 rfl hc (Nat.le_of_ble_eq_true rfl) rfl dX4_readSign_145 kk) (zC.mono H ?_)
  rintro r0 h2 ⟨x3, rfl, H⟩
  show zX mX4_readSign 148 [.ref l0] [.int x3] h2 Q
  exact zX_ret (some (.int x3)) (fun C Cr hc => x_iret C Cr rfl rfl hc dX4_readSign_148 ⟨rfl, rfl⟩) H
set_option maxHeartbeats 20000000 in
theorem bX4_readSign_149 (l0 : Nat) (h : zH) (Q : Option Value → zH → Prop) (H : oK h l0 4 ∧ (zC mX4_joinBy [.ref l0, .int (5 : Int32), .int (2 : Int32)] h (fun r0 h2 => ∃ x3 : Int32, r0 = some (.int x3) ∧ (Q (some (.int x3)) h2)))) : zX mX4_readSign 149 [.ref l0] [] h Q := by
  refine zX_seg (pc' := 152) (L' := [.ref l0]) (st' := [.int (2 : Int32), .int (5 : Int32), .ref l0]) (h2 := h) rfl rfl (fun C Cr hc kk => x_aload_n C (v := .ref l0) rfl rfl dX4_readSign_149 (x_iconst C (5 : Int32) (by decide) dX4_readSign_150 (x_iconst C (2 : Int32) (by decide) dX4_readSign_151 (kk)))) ?_
  obtain ⟨g1, H⟩ := H
  refine zX_call (as := [.ref l0, .int (5 : Int32), .int (2 : Int32)]) (st := []) (fun C hM hc kk => f_callV C [.int (5 : Int32), .int (2 : Int32)] hM kX4_joinBy vX4_joinBy lX4_230 ⟨by decide, by decide⟩ (rfl : vwCl[4]? = some (RX4, TX4, 14)) g1 rfl hc (Nat.le_of_ble_eq_true rfl) rfl dX4_readSign_152 kk) (zC.mono H ?_)
  rintro r0 h2 ⟨x3, rfl, H⟩
  show zX mX4_readSign 155 [.ref l0] [.int x3] h2 Q
  exact zX_ret (some (.int x3)) (fun C Cr hc => x_iret C Cr rfl rfl hc dX4_readSign_155 ⟨rfl, rfl⟩) H
set_option maxHeartbeats 20000000 in
theorem bX4_readSign_156 (l0 : Nat) (h : zH) (Q : Option Value → zH → Prop) (H : oK h l0 4 ∧ (zC mX4_joinBy [.ref l0, .int (4 : Int32), .int (1 : Int32)] h (fun r0 h2 => ∃ x3 : Int32, r0 = some (.int x3) ∧ (Q (some (.int x3)) h2)))) : zX mX4_readSign 156 [.ref l0] [] h Q := by
  refine zX_seg (pc' := 159) (L' := [.ref l0]) (st' := [.int (1 : Int32), .int (4 : Int32), .ref l0]) (h2 := h) rfl rfl (fun C Cr hc kk => x_aload_n C (v := .ref l0) rfl rfl dX4_readSign_156 (x_iconst C (4 : Int32) (by decide) dX4_readSign_157 (x_iconst C (1 : Int32) (by decide) dX4_readSign_158 (kk)))) ?_
  obtain ⟨g1, H⟩ := H
  refine zX_call (as := [.ref l0, .int (4 : Int32), .int (1 : Int32)]) (st := []) (fun C hM hc kk => f_callV C [.int (4 : Int32), .int (1 : Int32)] hM kX4_joinBy vX4_joinBy lX4_230 ⟨by decide, by decide⟩ (rfl : vwCl[4]? = some (RX4, TX4, 14)) g1 rfl hc (Nat.le_of_ble_eq_true rfl) rfl dX4_readSign_159 kk) (zC.mono H ?_)
  rintro r0 h2 ⟨x3, rfl, H⟩
  show zX mX4_readSign 162 [.ref l0] [.int x3] h2 Q
  exact zX_ret (some (.int x3)) (fun C Cr hc => x_iret C Cr rfl rfl hc dX4_readSign_162 ⟨rfl, rfl⟩) H
set_option maxHeartbeats 20000000 in
theorem bX4_readSign_163 (l0 : Nat) (h : zH) (Q : Option Value → zH → Prop) (H : oK h l0 4 ∧ (zC mX4_leaveBrackets [.ref l0] h (fun r0 h2 => ∃ x3 : Int32, r0 = some (.int x3) ∧ (Q (some (.int x3)) h2)))) : zX mX4_readSign 163 [.ref l0] [] h Q := by
  refine zX_seg (pc' := 164) (L' := [.ref l0]) (st' := [.ref l0]) (h2 := h) rfl rfl (fun C Cr hc kk => x_aload_n C (v := .ref l0) rfl rfl dX4_readSign_163 (kk)) ?_
  obtain ⟨g1, H⟩ := H
  refine zX_call (as := [.ref l0]) (st := []) (fun C hM hc kk => f_callV C [] hM kX4_leaveBrackets vX4_leaveBrackets lX4_236 ⟨by decide, by decide⟩ (rfl : vwCl[4]? = some (RX4, TX4, 14)) g1 rfl hc (Nat.le_of_ble_eq_true rfl) rfl dX4_readSign_164 kk) (zC.mono H ?_)
  rintro r0 h2 ⟨x3, rfl, H⟩
  show zX mX4_readSign 167 [.ref l0] [.int x3] h2 Q
  exact zX_ret (some (.int x3)) (fun C Cr hc => x_iret C Cr rfl rfl hc dX4_readSign_167 ⟨rfl, rfl⟩) H
set_option maxHeartbeats 20000000 in
theorem bX4_readSign_168 (l0 : Nat) (h : zH) (Q : Option Value → zH → Prop) (H : oK h l0 4 ∧ (zC mX4_leaveQuestion [.ref l0] h (fun r0 h2 => ∃ x3 : Int32, r0 = some (.int x3) ∧ (Q (some (.int x3)) h2)))) : zX mX4_readSign 168 [.ref l0] [] h Q := by
  refine zX_seg (pc' := 169) (L' := [.ref l0]) (st' := [.ref l0]) (h2 := h) rfl rfl (fun C Cr hc kk => x_aload_n C (v := .ref l0) rfl rfl dX4_readSign_168 (kk)) ?_
  obtain ⟨g1, H⟩ := H
  refine zX_call (as := [.ref l0]) (st := []) (fun C hM hc kk => f_callV C [] hM kX4_leaveQuestion vX4_leaveQuestion lX4_239 ⟨by decide, by decide⟩ (rfl : vwCl[4]? = some (RX4, TX4, 14)) g1 rfl hc (Nat.le_of_ble_eq_true rfl) rfl dX4_readSign_169 kk) (zC.mono H ?_)
  rintro r0 h2 ⟨x3, rfl, H⟩
  show zX mX4_readSign 172 [.ref l0] [.int x3] h2 Q
  exact zX_ret (some (.int x3)) (fun C Cr hc => x_iret C Cr rfl rfl hc dX4_readSign_172 ⟨rfl, rfl⟩) H
set_option maxHeartbeats 20000000 in
theorem bX4_readSign_173 (l0 : Nat) (h : zH) (Q : Option Value → zH → Prop) (H : oK h l0 4 ∧ (zC mX4_fail [.ref l0, .int (2 : Int32)] h (fun r0 h2 => ∃ x3 : Int32, r0 = some (.int x3) ∧ (Q (some (.int (4 : Int32))) h2)))) : zX mX4_readSign 173 [.ref l0] [] h Q := by
  refine zX_seg (pc' := 175) (L' := [.ref l0]) (st' := [.int (2 : Int32), .ref l0]) (h2 := h) rfl rfl (fun C Cr hc kk => x_aload_n C (v := .ref l0) rfl rfl dX4_readSign_173 (x_iconst C (2 : Int32) (by decide) dX4_readSign_174 (kk))) ?_
  obtain ⟨g1, H⟩ := H
  refine zX_call (as := [.ref l0, .int (2 : Int32)]) (st := []) (fun C hM hc kk => f_callV C [.int (2 : Int32)] hM kX4_fail vX4_fail lX4_75 ⟨by decide, by decide⟩ (rfl : vwCl[4]? = some (RX4, TX4, 14)) g1 rfl hc (Nat.le_of_ble_eq_true rfl) rfl dX4_readSign_175 kk) (zC.mono H ?_)
  rintro r0 h2 ⟨x3, rfl, H⟩
  show zX mX4_readSign 178 [.ref l0] [.int x3] h2 Q
  refine zX_seg (pc' := 180) (L' := [.ref l0]) (st' := [.int (4 : Int32)]) (h2 := h2) rfl rfl (fun C Cr hc kk => x_pop C rfl dX4_readSign_178 (x_iconst C (4 : Int32) (by decide) dX4_readSign_179 (kk))) ?_
  exact zX_ret (some (.int (4 : Int32))) (fun C Cr hc => x_iret C Cr rfl rfl hc dX4_readSign_180 ⟨rfl, rfl⟩) H
theorem nX4_readSign (t : Nat) (h : zH) (Q : Option Value → zH → Prop) (H : zX mX4_readSign 0 [.ref t] [] h Q) : zC mX4_readSign [.ref t] h Q := zC_of (by decide +kernel) (by simp) (Nat.le_of_ble_eq_true rfl) H
set_option maxHeartbeats 20000000 in
theorem bX4_joinBy_0 (t : Nat) (p0 : Int32) (p1 : Int32) (h : zH) (Q : Option Value → zH → Prop) (H : oK h t 4 ∧ (zC mX4_settle [.ref t, .int p1] h (fun r0 h2 => r0 = none ∧ (oK h2 t 4 ∧ (zC mX4_push [.ref t, .int p0] h2 (fun r0 h4 => r0 = none ∧ (oK h4 t 4 ∧ (∃ a6 : Nat, gR h4 t 0 = some a6 ∧ (oK h4 a6 8 ∧ (zC mX8_advance [.ref a6] h4 (fun r0 h8 => r0 = none ∧ (Q (some (.int (1 : Int32))) h8)))))))))))) : zX mX4_joinBy 0 [.ref t, .int p0, .int p1] [] h Q := by
  refine zX_seg (pc' := 2) (L' := [.ref t, .int p0, .int p1]) (st' := [.int p1, .ref t]) (h2 := h) rfl rfl (fun C Cr hc kk => x_aload_n C (v := .ref t) rfl rfl dX4_joinBy_0 (x_iload_n C rfl dX4_joinBy_1 (kk))) ?_
  obtain ⟨g1, H⟩ := H
  refine zX_call (as := [.ref t, .int p1]) (st := []) (fun C hM hc kk => f_callV C [.int p1] hM kX4_settle vX4_settle lX4_242 ⟨by decide, by decide⟩ (rfl : vwCl[4]? = some (RX4, TX4, 14)) g1 rfl hc (Nat.le_of_ble_eq_true rfl) rfl dX4_joinBy_2 kk) (zC.mono H ?_)
  rintro r0 h2 ⟨rfl, H⟩
  show zX mX4_joinBy 5 [.ref t, .int p0, .int p1] [] h2 Q
  refine zX_seg (pc' := 7) (L' := [.ref t, .int p0, .int p1]) (st' := [.int p0, .ref t]) (h2 := h2) rfl rfl (fun C Cr hc kk => x_aload_n C (v := .ref t) rfl rfl dX4_joinBy_5 (x_iload_n C rfl dX4_joinBy_6 (kk))) ?_
  obtain ⟨g3, H⟩ := H
  refine zX_call (as := [.ref t, .int p0]) (st := []) (fun C hM hc kk => f_callV C [.int p0] hM kX4_push vX4_push lX4_245 ⟨by decide, by decide⟩ (rfl : vwCl[4]? = some (RX4, TX4, 14)) g3 rfl hc (Nat.le_of_ble_eq_true rfl) rfl dX4_joinBy_7 kk) (zC.mono H ?_)
  rintro r0 h4 ⟨rfl, H⟩
  show zX mX4_joinBy 10 [.ref t, .int p0, .int p1] [] h4 Q
  obtain ⟨g5, H⟩ := H
  obtain ⟨a6, ea6, H⟩ := H
  refine zX_seg (pc' := 14) (L' := [.ref t, .int p0, .int p1]) (st' := [.ref a6]) (h2 := h4) rfl rfl (fun C Cr hc kk => x_aload_n C (v := .ref t) rfl rfl dX4_joinBy_10 (f_getR1 C lX4_12 g5 rfl ea6 dX4_joinBy_11 (kk))) ?_
  obtain ⟨g7, H⟩ := H
  refine zX_call (as := [.ref a6]) (st := []) (fun C hM hc kk => f_callVN C [] hM kX8_advance vX8_advance lX4_133 ⟨by decide, by decide⟩ (rfl : vwCl[8]? = some (RX8, TX8, 11)) g7 rfl hc (Nat.le_of_ble_eq_true rfl) rfl dX4_joinBy_14 kk) (zC.mono H ?_)
  rintro r0 h8 ⟨rfl, H⟩
  show zX mX4_joinBy 17 [.ref t, .int p0, .int p1] [] h8 Q
  refine zX_seg (pc' := 18) (L' := [.ref t, .int p0, .int p1]) (st' := [.int (1 : Int32)]) (h2 := h8) rfl rfl (fun C Cr hc kk => x_iconst C (1 : Int32) (by decide) dX4_joinBy_17 (kk)) ?_
  exact zX_ret (some (.int (1 : Int32))) (fun C Cr hc => x_iret C Cr rfl rfl hc dX4_joinBy_18 ⟨rfl, rfl⟩) H
theorem nX4_joinBy (t : Nat) (p0 : Int32) (p1 : Int32) (h : zH) (Q : Option Value → zH → Prop) (H : zX mX4_joinBy 0 [.ref t, .int p0, .int p1] [] h Q) : zC mX4_joinBy [.ref t, .int p0, .int p1] h Q := zC_of (by decide +kernel) (by simp) (Nat.le_of_ble_eq_true rfl) H
set_option maxHeartbeats 20000000 in
theorem bX4_relateBy_0 (t : Nat) (p0 : Int32) (h : zH) (Q : Option Value → zH → Prop) (H : oK h t 4 ∧ (zC mX4_settle [.ref t, .int (5 : Int32)] h (fun r0 h2 => r0 = none ∧ (oK h2 t 4 ∧ (zC mX4_topKind [.ref t] h2 (fun r0 h4 => ∃ x5 : Int32, r0 = some (.int x5) ∧ (zC mX4_binding [.int x5] h4 (fun r0 h6 => ∃ x7 : Int32, r0 = some (.int x7) ∧ ((x7 = (4 : Int32) → (oK h6 t 4 ∧ (zC mX4_fail [.ref t, .int (2 : Int32)] h6 (fun r0 h10 => ∃ x11 : Int32, r0 = some (.int x11) ∧ (oK h10 t 4 ∧ (zC mX4_push [.ref t, .int p0] h10 (fun r0 h13 => r0 = none ∧ (oK h13 t 4 ∧ (∃ a15 : Nat, gR h13 t 0 = some a15 ∧ (oK h13 a15 8 ∧ (zC mX8_advance [.ref a15] h13 (fun r0 h17 => r0 = none ∧ (Q (some (.int (1 : Int32))) h17))))))))))))) ∧ (¬ (x7 = (4 : Int32)) → (oK h6 t 4 ∧ (zC mX4_push [.ref t, .int p0] h6 (fun r0 h19 => r0 = none ∧ (oK h19 t 4 ∧ (∃ a21 : Nat, gR h19 t 0 = some a21 ∧ (oK h19 a21 8 ∧ (zC mX8_advance [.ref a21] h19 (fun r0 h23 => r0 = none ∧ (Q (some (.int (1 : Int32))) h23))))))))))))))))))) : zX mX4_relateBy 0 [.ref t, .int p0] [] h Q := by
  refine zX_seg (pc' := 2) (L' := [.ref t, .int p0]) (st' := [.int (5 : Int32), .ref t]) (h2 := h) rfl rfl (fun C Cr hc kk => x_aload_n C (v := .ref t) rfl rfl dX4_relateBy_0 (x_iconst C (5 : Int32) (by decide) dX4_relateBy_1 (kk))) ?_
  obtain ⟨g1, H⟩ := H
  refine zX_call (as := [.ref t, .int (5 : Int32)]) (st := []) (fun C hM hc kk => f_callV C [.int (5 : Int32)] hM kX4_settle vX4_settle lX4_242 ⟨by decide, by decide⟩ (rfl : vwCl[4]? = some (RX4, TX4, 14)) g1 rfl hc (Nat.le_of_ble_eq_true rfl) rfl dX4_relateBy_2 kk) (zC.mono H ?_)
  rintro r0 h2 ⟨rfl, H⟩
  show zX mX4_relateBy 5 [.ref t, .int p0] [] h2 Q
  refine zX_seg (pc' := 6) (L' := [.ref t, .int p0]) (st' := [.ref t]) (h2 := h2) rfl rfl (fun C Cr hc kk => x_aload_n C (v := .ref t) rfl rfl dX4_relateBy_5 (kk)) ?_
  obtain ⟨g3, H⟩ := H
  refine zX_call (as := [.ref t]) (st := []) (fun C hM hc kk => f_callV C [] hM kX4_topKind vX4_topKind lX4_206 ⟨by decide, by decide⟩ (rfl : vwCl[4]? = some (RX4, TX4, 14)) g3 rfl hc (Nat.le_of_ble_eq_true rfl) rfl dX4_relateBy_6 kk) (zC.mono H ?_)
  rintro r0 h4 ⟨x5, rfl, H⟩
  show zX mX4_relateBy 9 [.ref t, .int p0] [.int x5] h4 Q
  refine zX_call (as := [.int x5]) (st := []) (fun C hM hc kk => x_callS C [.int x5] hM kX4_binding sX4_binding lX4_220 ⟨by decide, by decide⟩ rfl hc (Nat.le_of_ble_eq_true rfl) rfl dX4_relateBy_9 kk) (zC.mono H ?_)
  rintro r0 h6 ⟨x7, rfl, H⟩
  show zX mX4_relateBy 12 [.ref t, .int p0] [.int x7] h6 Q
  refine zX_seg (pc' := 13) (L' := [.ref t, .int p0]) (st' := [.int (4 : Int32), .int x7]) (h2 := h6) rfl rfl (fun C Cr hc kk => x_iconst C (4 : Int32) (by decide) dX4_relateBy_12 (kk)) ?_
  refine zX_br (p1 := 16) (p2 := 22) (st' := []) (x7 = (4 : Int32)) (fun C kt kf => x_icmp_ne C 22 dX4_relateBy_13 (by decide) kf kt) (fun q8 => ?_) (fun q8 => ?_)
  · replace H := H.1 q8
    refine zX_seg (pc' := 18) (L' := [.ref t, .int p0]) (st' := [.int (2 : Int32), .ref t]) (h2 := h6) rfl rfl (fun C Cr hc kk => x_aload_n C (v := .ref t) rfl rfl dX4_relateBy_16 (x_iconst C (2 : Int32) (by decide) dX4_relateBy_17 (kk))) ?_
    obtain ⟨g9, H⟩ := H
    refine zX_call (as := [.ref t, .int (2 : Int32)]) (st := []) (fun C hM hc kk => f_callV C [.int (2 : Int32)] hM kX4_fail vX4_fail lX4_75 ⟨by decide, by decide⟩ (rfl : vwCl[4]? = some (RX4, TX4, 14)) g9 rfl hc (Nat.le_of_ble_eq_true rfl) rfl dX4_relateBy_18 kk) (zC.mono H ?_)
    rintro r0 h10 ⟨x11, rfl, H⟩
    show zX mX4_relateBy 21 [.ref t, .int p0] [.int x11] h10 Q
    refine zX_seg (pc' := 24) (L' := [.ref t, .int p0]) (st' := [.int p0, .ref t]) (h2 := h10) rfl rfl (fun C Cr hc kk => x_pop C rfl dX4_relateBy_21 (x_aload_n C (v := .ref t) rfl rfl dX4_relateBy_22 (x_iload_n C rfl dX4_relateBy_23 (kk)))) ?_
    obtain ⟨g12, H⟩ := H
    refine zX_call (as := [.ref t, .int p0]) (st := []) (fun C hM hc kk => f_callV C [.int p0] hM kX4_push vX4_push lX4_245 ⟨by decide, by decide⟩ (rfl : vwCl[4]? = some (RX4, TX4, 14)) g12 rfl hc (Nat.le_of_ble_eq_true rfl) rfl dX4_relateBy_24 kk) (zC.mono H ?_)
    rintro r0 h13 ⟨rfl, H⟩
    show zX mX4_relateBy 27 [.ref t, .int p0] [] h13 Q
    obtain ⟨g14, H⟩ := H
    obtain ⟨a15, ea15, H⟩ := H
    refine zX_seg (pc' := 31) (L' := [.ref t, .int p0]) (st' := [.ref a15]) (h2 := h13) rfl rfl (fun C Cr hc kk => x_aload_n C (v := .ref t) rfl rfl dX4_relateBy_27 (f_getR1 C lX4_12 g14 rfl ea15 dX4_relateBy_28 (kk))) ?_
    obtain ⟨g16, H⟩ := H
    refine zX_call (as := [.ref a15]) (st := []) (fun C hM hc kk => f_callVN C [] hM kX8_advance vX8_advance lX4_133 ⟨by decide, by decide⟩ (rfl : vwCl[8]? = some (RX8, TX8, 11)) g16 rfl hc (Nat.le_of_ble_eq_true rfl) rfl dX4_relateBy_31 kk) (zC.mono H ?_)
    rintro r0 h17 ⟨rfl, H⟩
    show zX mX4_relateBy 34 [.ref t, .int p0] [] h17 Q
    refine zX_seg (pc' := 35) (L' := [.ref t, .int p0]) (st' := [.int (1 : Int32)]) (h2 := h17) rfl rfl (fun C Cr hc kk => x_iconst C (1 : Int32) (by decide) dX4_relateBy_34 (kk)) ?_
    exact zX_ret (some (.int (1 : Int32))) (fun C Cr hc => x_iret C Cr rfl rfl hc dX4_relateBy_35 ⟨rfl, rfl⟩) H
  · replace H := H.2 q8
    refine zX_seg (pc' := 24) (L' := [.ref t, .int p0]) (st' := [.int p0, .ref t]) (h2 := h6) rfl rfl (fun C Cr hc kk => x_aload_n C (v := .ref t) rfl rfl dX4_relateBy_22 (x_iload_n C rfl dX4_relateBy_23 (kk))) ?_
    obtain ⟨g18, H⟩ := H
    refine zX_call (as := [.ref t, .int p0]) (st := []) (fun C hM hc kk => f_callV C [.int p0] hM kX4_push vX4_push lX4_245 ⟨by decide, by decide⟩ (rfl : vwCl[4]? = some (RX4, TX4, 14)) g18 rfl hc (Nat.le_of_ble_eq_true rfl) rfl dX4_relateBy_24 kk) (zC.mono H ?_)
    rintro r0 h19 ⟨rfl, H⟩
    show zX mX4_relateBy 27 [.ref t, .int p0] [] h19 Q
    obtain ⟨g20, H⟩ := H
    obtain ⟨a21, ea21, H⟩ := H
    refine zX_seg (pc' := 31) (L' := [.ref t, .int p0]) (st' := [.ref a21]) (h2 := h19) rfl rfl (fun C Cr hc kk => x_aload_n C (v := .ref t) rfl rfl dX4_relateBy_27 (f_getR1 C lX4_12 g20 rfl ea21 dX4_relateBy_28 (kk))) ?_
    obtain ⟨g22, H⟩ := H
    refine zX_call (as := [.ref a21]) (st := []) (fun C hM hc kk => f_callVN C [] hM kX8_advance vX8_advance lX4_133 ⟨by decide, by decide⟩ (rfl : vwCl[8]? = some (RX8, TX8, 11)) g22 rfl hc (Nat.le_of_ble_eq_true rfl) rfl dX4_relateBy_31 kk) (zC.mono H ?_)
    rintro r0 h23 ⟨rfl, H⟩
    show zX mX4_relateBy 34 [.ref t, .int p0] [] h23 Q
    refine zX_seg (pc' := 35) (L' := [.ref t, .int p0]) (st' := [.int (1 : Int32)]) (h2 := h23) rfl rfl (fun C Cr hc kk => x_iconst C (1 : Int32) (by decide) dX4_relateBy_34 (kk)) ?_
    exact zX_ret (some (.int (1 : Int32))) (fun C Cr hc => x_iret C Cr rfl rfl hc dX4_relateBy_35 ⟨rfl, rfl⟩) H
theorem nX4_relateBy (t : Nat) (p0 : Int32) (h : zH) (Q : Option Value → zH → Prop) (H : zX mX4_relateBy 0 [.ref t, .int p0] [] h Q) : zC mX4_relateBy [.ref t, .int p0] h Q := zC_of (by decide +kernel) (by simp) (Nat.le_of_ble_eq_true rfl) H
set_option maxHeartbeats 20000000 in
theorem bX4_leaveBrackets_0 (t : Nat) (h : zH) (Q : Option Value → zH → Prop) (H : oK h t 4 ∧ (zC mX4_settle [.ref t, .int (1 : Int32)] h (fun r0 h2 => r0 = none ∧ (oK h2 t 4 ∧ (zC mX4_topKind [.ref t] h2 (fun r0 h4 => ∃ x5 : Int32, r0 = some (.int x5) ∧ ((x5 = (3 : Int32) → (oK h4 t 4 ∧ (zC mX4_drop [.ref t, .int (3 : Int32)] h4 (fun r0 h8 => r0 = none ∧ (oK h8 t 4 ∧ (∃ a10 : Nat, gR h8 t 0 = some a10 ∧ (oK h8 a10 8 ∧ (zC mX8_advance [.ref a10] h8 (fun r0 h12 => r0 = none ∧ (Q (some (.int (2 : Int32))) h12)))))))))) ∧ (¬ (x5 = (3 : Int32)) → (oK h4 t 4 ∧ (zC mX4_fail [.ref t, .int (2 : Int32)] h4 (fun r0 h14 => ∃ x15 : Int32, r0 = some (.int x15) ∧ (oK h14 t 4 ∧ (zC mX4_drop [.ref t, .int (3 : Int32)] h14 (fun r0 h17 => r0 = none ∧ (oK h17 t 4 ∧ (∃ a19 : Nat, gR h17 t 0 = some a19 ∧ (oK h17 a19 8 ∧ (zC mX8_advance [.ref a19] h17 (fun r0 h21 => r0 = none ∧ (Q (some (.int (2 : Int32))) h21)))))))))))))))))))) : zX mX4_leaveBrackets 0 [.ref t] [] h Q := by
  refine zX_seg (pc' := 2) (L' := [.ref t]) (st' := [.int (1 : Int32), .ref t]) (h2 := h) rfl rfl (fun C Cr hc kk => x_aload_n C (v := .ref t) rfl rfl dX4_leaveBrackets_0 (x_iconst C (1 : Int32) (by decide) dX4_leaveBrackets_1 (kk))) ?_
  obtain ⟨g1, H⟩ := H
  refine zX_call (as := [.ref t, .int (1 : Int32)]) (st := []) (fun C hM hc kk => f_callV C [.int (1 : Int32)] hM kX4_settle vX4_settle lX4_242 ⟨by decide, by decide⟩ (rfl : vwCl[4]? = some (RX4, TX4, 14)) g1 rfl hc (Nat.le_of_ble_eq_true rfl) rfl dX4_leaveBrackets_2 kk) (zC.mono H ?_)
  rintro r0 h2 ⟨rfl, H⟩
  show zX mX4_leaveBrackets 5 [.ref t] [] h2 Q
  refine zX_seg (pc' := 6) (L' := [.ref t]) (st' := [.ref t]) (h2 := h2) rfl rfl (fun C Cr hc kk => x_aload_n C (v := .ref t) rfl rfl dX4_leaveBrackets_5 (kk)) ?_
  obtain ⟨g3, H⟩ := H
  refine zX_call (as := [.ref t]) (st := []) (fun C hM hc kk => f_callV C [] hM kX4_topKind vX4_topKind lX4_206 ⟨by decide, by decide⟩ (rfl : vwCl[4]? = some (RX4, TX4, 14)) g3 rfl hc (Nat.le_of_ble_eq_true rfl) rfl dX4_leaveBrackets_6 kk) (zC.mono H ?_)
  rintro r0 h4 ⟨x5, rfl, H⟩
  show zX mX4_leaveBrackets 9 [.ref t] [.int x5] h4 Q
  refine zX_seg (pc' := 10) (L' := [.ref t]) (st' := [.int (3 : Int32), .int x5]) (h2 := h4) rfl rfl (fun C Cr hc kk => x_iconst C (3 : Int32) (by decide) dX4_leaveBrackets_9 (kk)) ?_
  refine zX_br (p1 := 19) (p2 := 13) (st' := []) (x5 = (3 : Int32)) (fun C kt kf => x_icmp_eq C 19 dX4_leaveBrackets_10 (by decide) kt kf) (fun q6 => ?_) (fun q6 => ?_)
  · replace H := H.1 q6
    refine zX_seg (pc' := 21) (L' := [.ref t]) (st' := [.int (3 : Int32), .ref t]) (h2 := h4) rfl rfl (fun C Cr hc kk => x_aload_n C (v := .ref t) rfl rfl dX4_leaveBrackets_19 (x_iconst C (3 : Int32) (by decide) dX4_leaveBrackets_20 (kk))) ?_
    obtain ⟨g7, H⟩ := H
    refine zX_call (as := [.ref t, .int (3 : Int32)]) (st := []) (fun C hM hc kk => f_callV C [.int (3 : Int32)] hM kX4_drop vX4_drop lX4_209 ⟨by decide, by decide⟩ (rfl : vwCl[4]? = some (RX4, TX4, 14)) g7 rfl hc (Nat.le_of_ble_eq_true rfl) rfl dX4_leaveBrackets_21 kk) (zC.mono H ?_)
    rintro r0 h8 ⟨rfl, H⟩
    show zX mX4_leaveBrackets 24 [.ref t] [] h8 Q
    obtain ⟨g9, H⟩ := H
    obtain ⟨a10, ea10, H⟩ := H
    refine zX_seg (pc' := 28) (L' := [.ref t]) (st' := [.ref a10]) (h2 := h8) rfl rfl (fun C Cr hc kk => x_aload_n C (v := .ref t) rfl rfl dX4_leaveBrackets_24 (f_getR1 C lX4_12 g9 rfl ea10 dX4_leaveBrackets_25 (kk))) ?_
    obtain ⟨g11, H⟩ := H
    refine zX_call (as := [.ref a10]) (st := []) (fun C hM hc kk => f_callVN C [] hM kX8_advance vX8_advance lX4_133 ⟨by decide, by decide⟩ (rfl : vwCl[8]? = some (RX8, TX8, 11)) g11 rfl hc (Nat.le_of_ble_eq_true rfl) rfl dX4_leaveBrackets_28 kk) (zC.mono H ?_)
    rintro r0 h12 ⟨rfl, H⟩
    show zX mX4_leaveBrackets 31 [.ref t] [] h12 Q
    refine zX_seg (pc' := 32) (L' := [.ref t]) (st' := [.int (2 : Int32)]) (h2 := h12) rfl rfl (fun C Cr hc kk => x_iconst C (2 : Int32) (by decide) dX4_leaveBrackets_31 (kk)) ?_
    exact zX_ret (some (.int (2 : Int32))) (fun C Cr hc => x_iret C Cr rfl rfl hc dX4_leaveBrackets_32 ⟨rfl, rfl⟩) H
  · replace H := H.2 q6
    refine zX_seg (pc' := 15) (L' := [.ref t]) (st' := [.int (2 : Int32), .ref t]) (h2 := h4) rfl rfl (fun C Cr hc kk => x_aload_n C (v := .ref t) rfl rfl dX4_leaveBrackets_13 (x_iconst C (2 : Int32) (by decide) dX4_leaveBrackets_14 (kk))) ?_
    obtain ⟨g13, H⟩ := H
    refine zX_call (as := [.ref t, .int (2 : Int32)]) (st := []) (fun C hM hc kk => f_callV C [.int (2 : Int32)] hM kX4_fail vX4_fail lX4_75 ⟨by decide, by decide⟩ (rfl : vwCl[4]? = some (RX4, TX4, 14)) g13 rfl hc (Nat.le_of_ble_eq_true rfl) rfl dX4_leaveBrackets_15 kk) (zC.mono H ?_)
    rintro r0 h14 ⟨x15, rfl, H⟩
    show zX mX4_leaveBrackets 18 [.ref t] [.int x15] h14 Q
    refine zX_seg (pc' := 21) (L' := [.ref t]) (st' := [.int (3 : Int32), .ref t]) (h2 := h14) rfl rfl (fun C Cr hc kk => x_pop C rfl dX4_leaveBrackets_18 (x_aload_n C (v := .ref t) rfl rfl dX4_leaveBrackets_19 (x_iconst C (3 : Int32) (by decide) dX4_leaveBrackets_20 (kk)))) ?_
    obtain ⟨g16, H⟩ := H
    refine zX_call (as := [.ref t, .int (3 : Int32)]) (st := []) (fun C hM hc kk => f_callV C [.int (3 : Int32)] hM kX4_drop vX4_drop lX4_209 ⟨by decide, by decide⟩ (rfl : vwCl[4]? = some (RX4, TX4, 14)) g16 rfl hc (Nat.le_of_ble_eq_true rfl) rfl dX4_leaveBrackets_21 kk) (zC.mono H ?_)
    rintro r0 h17 ⟨rfl, H⟩
    show zX mX4_leaveBrackets 24 [.ref t] [] h17 Q
    obtain ⟨g18, H⟩ := H
    obtain ⟨a19, ea19, H⟩ := H
    refine zX_seg (pc' := 28) (L' := [.ref t]) (st' := [.ref a19]) (h2 := h17) rfl rfl (fun C Cr hc kk => x_aload_n C (v := .ref t) rfl rfl dX4_leaveBrackets_24 (f_getR1 C lX4_12 g18 rfl ea19 dX4_leaveBrackets_25 (kk))) ?_
    obtain ⟨g20, H⟩ := H
    refine zX_call (as := [.ref a19]) (st := []) (fun C hM hc kk => f_callVN C [] hM kX8_advance vX8_advance lX4_133 ⟨by decide, by decide⟩ (rfl : vwCl[8]? = some (RX8, TX8, 11)) g20 rfl hc (Nat.le_of_ble_eq_true rfl) rfl dX4_leaveBrackets_28 kk) (zC.mono H ?_)
    rintro r0 h21 ⟨rfl, H⟩
    show zX mX4_leaveBrackets 31 [.ref t] [] h21 Q
    refine zX_seg (pc' := 32) (L' := [.ref t]) (st' := [.int (2 : Int32)]) (h2 := h21) rfl rfl (fun C Cr hc kk => x_iconst C (2 : Int32) (by decide) dX4_leaveBrackets_31 (kk)) ?_
    exact zX_ret (some (.int (2 : Int32))) (fun C Cr hc => x_iret C Cr rfl rfl hc dX4_leaveBrackets_32 ⟨rfl, rfl⟩) H
theorem nX4_leaveBrackets (t : Nat) (h : zH) (Q : Option Value → zH → Prop) (H : zX mX4_leaveBrackets 0 [.ref t] [] h Q) : zC mX4_leaveBrackets [.ref t] h Q := zC_of (by decide +kernel) (by simp) (Nat.le_of_ble_eq_true rfl) H
set_option maxHeartbeats 20000000 in
theorem bX4_leaveQuestion_0 (t : Nat) (h : zH) (Q : Option Value → zH → Prop) (H : oK h t 4 ∧ (zC mX4_settle [.ref t, .int (1 : Int32)] h (fun r0 h2 => r0 = none ∧ (oK h2 t 4 ∧ (zC mX4_topKind [.ref t] h2 (fun r0 h4 => ∃ x5 : Int32, r0 = some (.int x5) ∧ ((x5 = 0 → (zX mX4_leaveQuestion 18 [.ref t] [] h4 Q)) ∧ (¬ (x5 = 0) → (oK h4 t 4 ∧ (zC mX4_fail [.ref t, .int (2 : Int32)] h4 (fun r0 h8 => ∃ x9 : Int32, r0 = some (.int x9) ∧ (zX mX4_leaveQuestion 18 [.ref t] [] h8 Q)))))))))))) : zX mX4_leaveQuestion 0 [.ref t] [] h Q := by
  refine zX_seg (pc' := 2) (L' := [.ref t]) (st' := [.int (1 : Int32), .ref t]) (h2 := h) rfl rfl (fun C Cr hc kk => x_aload_n C (v := .ref t) rfl rfl dX4_leaveQuestion_0 (x_iconst C (1 : Int32) (by decide) dX4_leaveQuestion_1 (kk))) ?_
  obtain ⟨g1, H⟩ := H
  refine zX_call (as := [.ref t, .int (1 : Int32)]) (st := []) (fun C hM hc kk => f_callV C [.int (1 : Int32)] hM kX4_settle vX4_settle lX4_242 ⟨by decide, by decide⟩ (rfl : vwCl[4]? = some (RX4, TX4, 14)) g1 rfl hc (Nat.le_of_ble_eq_true rfl) rfl dX4_leaveQuestion_2 kk) (zC.mono H ?_)
  rintro r0 h2 ⟨rfl, H⟩
  show zX mX4_leaveQuestion 5 [.ref t] [] h2 Q
  refine zX_seg (pc' := 6) (L' := [.ref t]) (st' := [.ref t]) (h2 := h2) rfl rfl (fun C Cr hc kk => x_aload_n C (v := .ref t) rfl rfl dX4_leaveQuestion_5 (kk)) ?_
  obtain ⟨g3, H⟩ := H
  refine zX_call (as := [.ref t]) (st := []) (fun C hM hc kk => f_callV C [] hM kX4_topKind vX4_topKind lX4_206 ⟨by decide, by decide⟩ (rfl : vwCl[4]? = some (RX4, TX4, 14)) g3 rfl hc (Nat.le_of_ble_eq_true rfl) rfl dX4_leaveQuestion_6 kk) (zC.mono H ?_)
  rintro r0 h4 ⟨x5, rfl, H⟩
  show zX mX4_leaveQuestion 9 [.ref t] [.int x5] h4 Q
  refine zX_br (p1 := 18) (p2 := 12) (st' := []) (x5 = 0) (fun C kt kf => x_if_eq C 18 dX4_leaveQuestion_9 (by decide) kt kf) (fun q6 => ?_) (fun q6 => ?_)
  · replace H := H.1 q6
    exact zX_wk (wkK wkN) H
  · replace H := H.2 q6
    refine zX_seg (pc' := 14) (L' := [.ref t]) (st' := [.int (2 : Int32), .ref t]) (h2 := h4) rfl rfl (fun C Cr hc kk => x_aload_n C (v := .ref t) rfl rfl dX4_leaveQuestion_12 (x_iconst C (2 : Int32) (by decide) dX4_leaveQuestion_13 (kk))) ?_
    obtain ⟨g7, H⟩ := H
    refine zX_call (as := [.ref t, .int (2 : Int32)]) (st := []) (fun C hM hc kk => f_callV C [.int (2 : Int32)] hM kX4_fail vX4_fail lX4_75 ⟨by decide, by decide⟩ (rfl : vwCl[4]? = some (RX4, TX4, 14)) g7 rfl hc (Nat.le_of_ble_eq_true rfl) rfl dX4_leaveQuestion_14 kk) (zC.mono H ?_)
    rintro r0 h8 ⟨x9, rfl, H⟩
    show zX mX4_leaveQuestion 17 [.ref t] [.int x9] h8 Q
    refine zX_seg (pc' := 18) (L' := [.ref t]) (st' := []) (h2 := h8) rfl rfl (fun C Cr hc kk => x_pop C rfl dX4_leaveQuestion_17 (kk)) ?_
    exact zX_wk (wkK wkN) H
set_option maxHeartbeats 20000000 in
theorem bX4_leaveQuestion_18 (l0 : Nat) (h : zH) (Q : Option Value → zH → Prop) (H : oK h l0 4 ∧ (∃ a2 : Nat, gR h l0 2 = some a2 ∧ (zC mX11_put [.ref a2, .int ((gI h l0 5) - (1 : Int32)), .int ((1 : Int32) + ((16 : Int32) * (gI h l0 4)))] h (fun r0 h3 => r0 = none ∧ (oK h3 l0 4 ∧ (zC mX4_addStep [.ref l0, .int (3 : Int32), .int (0 : Int32), .int (0 : Int32)] h3 (fun r0 h5 => r0 = none ∧ (oK h5 l0 4 ∧ (∃ a7 : Nat, gR h5 l0 0 = some a7 ∧ (oK h5 a7 8 ∧ (zC mX8_advance [.ref a7] h5 (fun r0 h9 => r0 = none ∧ (Q (some (.int (0 : Int32))) h9))))))))))))) : zX mX4_leaveQuestion 18 [.ref l0] [] h Q := by
  obtain ⟨g1, H⟩ := H
  obtain ⟨a2, ea2, H⟩ := H
  refine zX_seg (pc' := 37) (L' := [.ref l0]) (st' := [.int ((1 : Int32) + ((16 : Int32) * (gI h l0 4))), .int ((gI h l0 5) - (1 : Int32)), .ref a2]) (h2 := h) rfl rfl (fun C Cr hc kk => x_aload_n C (v := .ref l0) rfl rfl dX4_leaveQuestion_18 (f_getR1 C lX4_22 g1 rfl ea2 dX4_leaveQuestion_19 (x_aload_n C (v := .ref l0) rfl rfl dX4_leaveQuestion_22 (f_getI C lX4_124 g1 rfl dX4_leaveQuestion_23 (x_iconst C (1 : Int32) (by decide) dX4_leaveQuestion_26 (x_isub C dX4_leaveQuestion_27 (x_iconst C (1 : Int32) (by decide) dX4_leaveQuestion_28 (x_bipush C (16 : Int32) (by decide) dX4_leaveQuestion_29 (x_aload_n C (v := .ref l0) rfl rfl dX4_leaveQuestion_31 (f_getI C lX4_86 g1 rfl dX4_leaveQuestion_32 (x_imul C dX4_leaveQuestion_35 (x_iadd C dX4_leaveQuestion_36 (kk))))))))))))) ?_
  refine zX_call (as := [.ref a2, .int ((gI h l0 5) - (1 : Int32)), .int ((1 : Int32) + ((16 : Int32) * (gI h l0 4)))]) (st := []) (fun C hM hc kk => x_callSN C [.ref a2, .int ((gI h l0 5) - (1 : Int32)), .int ((1 : Int32) + ((16 : Int32) * (gI h l0 4)))] hM kX11_put sX11_put lX4_216 ⟨by decide, by decide⟩ rfl hc (Nat.le_of_ble_eq_true rfl) rfl dX4_leaveQuestion_37 kk) (zC.mono H ?_)
  rintro r0 h3 ⟨rfl, H⟩
  show zX mX4_leaveQuestion 40 [.ref l0] [] h3 Q
  refine zX_seg (pc' := 44) (L' := [.ref l0]) (st' := [.int (0 : Int32), .int (0 : Int32), .int (3 : Int32), .ref l0]) (h2 := h3) rfl rfl (fun C Cr hc kk => x_aload_n C (v := .ref l0) rfl rfl dX4_leaveQuestion_40 (x_iconst C (3 : Int32) (by decide) dX4_leaveQuestion_41 (x_iconst C (0 : Int32) (by decide) dX4_leaveQuestion_42 (x_iconst C (0 : Int32) (by decide) dX4_leaveQuestion_43 (kk))))) ?_
  obtain ⟨g4, H⟩ := H
  refine zX_call (as := [.ref l0, .int (3 : Int32), .int (0 : Int32), .int (0 : Int32)]) (st := []) (fun C hM hc kk => f_callV C [.int (3 : Int32), .int (0 : Int32), .int (0 : Int32)] hM kX4_addStep vX4_addStep lX4_196 ⟨by decide, by decide⟩ (rfl : vwCl[4]? = some (RX4, TX4, 14)) g4 rfl hc (Nat.le_of_ble_eq_true rfl) rfl dX4_leaveQuestion_44 kk) (zC.mono H ?_)
  rintro r0 h5 ⟨rfl, H⟩
  show zX mX4_leaveQuestion 47 [.ref l0] [] h5 Q
  obtain ⟨g6, H⟩ := H
  obtain ⟨a7, ea7, H⟩ := H
  refine zX_seg (pc' := 51) (L' := [.ref l0]) (st' := [.ref a7]) (h2 := h5) rfl rfl (fun C Cr hc kk => x_aload_n C (v := .ref l0) rfl rfl dX4_leaveQuestion_47 (f_getR1 C lX4_12 g6 rfl ea7 dX4_leaveQuestion_48 (kk))) ?_
  obtain ⟨g8, H⟩ := H
  refine zX_call (as := [.ref a7]) (st := []) (fun C hM hc kk => f_callVN C [] hM kX8_advance vX8_advance lX4_133 ⟨by decide, by decide⟩ (rfl : vwCl[8]? = some (RX8, TX8, 11)) g8 rfl hc (Nat.le_of_ble_eq_true rfl) rfl dX4_leaveQuestion_51 kk) (zC.mono H ?_)
  rintro r0 h9 ⟨rfl, H⟩
  show zX mX4_leaveQuestion 54 [.ref l0] [] h9 Q
  refine zX_seg (pc' := 55) (L' := [.ref l0]) (st' := [.int (0 : Int32)]) (h2 := h9) rfl rfl (fun C Cr hc kk => x_iconst C (0 : Int32) (by decide) dX4_leaveQuestion_54 (kk)) ?_
  exact zX_ret (some (.int (0 : Int32))) (fun C Cr hc => x_iret C Cr rfl rfl hc dX4_leaveQuestion_55 ⟨rfl, rfl⟩) H
theorem nX4_leaveQuestion (t : Nat) (h : zH) (Q : Option Value → zH → Prop) (H : zX mX4_leaveQuestion 0 [.ref t] [] h Q) : zC mX4_leaveQuestion [.ref t] h Q := zC_of (by decide +kernel) (by simp) (Nat.le_of_ble_eq_true rfl) H
set_option maxHeartbeats 20000000 in
theorem bX4_countUnit_0 (t : Nat) (h : zH) (Q : Option Value → zH → Prop) (H : oK h t 4 ∧ (((gI h t 8) < (80 : Int32) → (∀ h3 : zH, h3 = (pF h t 8 (.int ((gI h t 8) + (1 : Int32)))) → (Q (some (.int (1 : Int32))) h3))) ∧ (¬ ((gI h t 8) < (80 : Int32)) → (zC mX4_fail [.ref t, .int (2 : Int32)] h (fun r0 h5 => ∃ x6 : Int32, r0 = some (.int x6) ∧ ((x6 = 0 ∨ x6 = 1) ∧ (Q (some (.int x6)) h5))))))) : zX mX4_countUnit 0 [.ref t] [] h Q := by
  obtain ⟨g1, H⟩ := H
  refine zX_seg (pc' := 6) (L' := [.ref t]) (st' := [.int (80 : Int32), .int (gI h t 8)]) (h2 := h) rfl rfl (fun C Cr hc kk => x_aload_n C (v := .ref t) rfl rfl dX4_countUnit_0 (f_getI C lX4_106 g1 rfl dX4_countUnit_1 (x_bipush C (80 : Int32) (by decide) dX4_countUnit_4 (kk)))) ?_
  refine zX_br (p1 := 15) (p2 := 9) (st' := []) ((gI h t 8) < (80 : Int32)) (fun C kt kf => x_icmp_lt C 15 dX4_countUnit_6 (by decide) kt kf) (fun q2 => ?_) (fun q2 => ?_)
  · replace H := H.1 q2
    refine zX_seg (pc' := 25) (L' := [.ref t]) (st' := []) (h2 := (pF h t 8 (.int ((gI h t 8) + (1 : Int32))))) rfl rfl (fun C Cr hc kk => x_aload_n C (v := .ref t) rfl rfl dX4_countUnit_15 (x_dup C rfl dX4_countUnit_16 (f_getI C lX4_106 g1 rfl dX4_countUnit_17 (x_iconst C (1 : Int32) (by decide) dX4_countUnit_20 (x_iadd C dX4_countUnit_21 (f_putI C lX4_106 tX4 nX4_8 g1 rfl rfl dX4_countUnit_22 (kk))))))) ?_
    obtain ⟨h3, eh3⟩ : ∃ y : zH, y = (pF h t 8 (.int ((gI h t 8) + (1 : Int32)))) := ⟨_, rfl⟩
    replace H := H h3 eh3
    rw [← eh3]
    have g4 : oK h3 t 4 := by rw [eh3]; exact oK_pF' g1 rfl rfl g1
    refine zX_seg (pc' := 26) (L' := [.ref t]) (st' := [.int (1 : Int32)]) (h2 := h3) rfl rfl (fun C Cr hc kk => x_iconst C (1 : Int32) (by decide) dX4_countUnit_25 (kk)) ?_
    exact zX_ret (some (.int (1 : Int32))) (fun C Cr hc => x_iret C Cr rfl rfl hc dX4_countUnit_26 ⟨rfl, rfl⟩) H
  · replace H := H.2 q2
    refine zX_seg (pc' := 11) (L' := [.ref t]) (st' := [.int (2 : Int32), .ref t]) (h2 := h) rfl rfl (fun C Cr hc kk => x_aload_n C (v := .ref t) rfl rfl dX4_countUnit_9 (x_iconst C (2 : Int32) (by decide) dX4_countUnit_10 (kk))) ?_
    refine zX_call (as := [.ref t, .int (2 : Int32)]) (st := []) (fun C hM hc kk => f_callV C [.int (2 : Int32)] hM kX4_fail vX4_fail lX4_75 ⟨by decide, by decide⟩ (rfl : vwCl[4]? = some (RX4, TX4, 14)) g1 rfl hc (Nat.le_of_ble_eq_true rfl) rfl dX4_countUnit_11 kk) (zC.mono H ?_)
    rintro r0 h5 ⟨x6, rfl, H⟩
    show zX mX4_countUnit 14 [.ref t] [.int x6] h5 Q
    obtain ⟨g7, H⟩ := H
    exact zX_ret (some (.int x6)) (fun C Cr hc => x_iret C Cr rfl (by rcases g7 with z | z <;> rw [z] <;> rfl) hc dX4_countUnit_14 ⟨rfl, rfl⟩) H
theorem nX4_countUnit (t : Nat) (h : zH) (Q : Option Value → zH → Prop) (H : zX mX4_countUnit 0 [.ref t] [] h Q) : zC mX4_countUnit [.ref t] h Q := zC_of (by decide +kernel) (by simp) (Nat.le_of_ble_eq_true rfl) H
set_option maxHeartbeats 20000000 in
theorem bX4_enter_0 (t : Nat) (p0 : Int32) (h : zH) (Q : Option Value → zH → Prop) (H : oK h t 4 ∧ (((gI h t 6) ≤ (6 : Int32) → (zX mX4_enter 15 [.ref t, .int p0] [] h Q)) ∧ (¬ ((gI h t 6) ≤ (6 : Int32)) → (zC mX4_fail [.ref t, .int (2 : Int32)] h (fun r0 h3 => ∃ x4 : Int32, r0 = some (.int x4) ∧ (zX mX4_enter 15 [.ref t, .int p0] [] h3 Q)))))) : zX mX4_enter 0 [.ref t, .int p0] [] h Q := by
  obtain ⟨g1, H⟩ := H
  refine zX_seg (pc' := 6) (L' := [.ref t, .int p0]) (st' := [.int (6 : Int32), .int (gI h t 6)]) (h2 := h) rfl rfl (fun C Cr hc kk => x_aload_n C (v := .ref t) rfl rfl dX4_enter_0 (f_getI C lX4_127 g1 rfl dX4_enter_1 (x_bipush C (6 : Int32) (by decide) dX4_enter_4 (kk)))) ?_
  refine zX_br (p1 := 15) (p2 := 9) (st' := []) ((gI h t 6) ≤ (6 : Int32)) (fun C kt kf => x_icmp_le C 15 dX4_enter_6 (by decide) kt kf) (fun q2 => ?_) (fun q2 => ?_)
  · replace H := H.1 q2
    exact zX_wk (wkK (wkK wkN)) H
  · replace H := H.2 q2
    refine zX_seg (pc' := 11) (L' := [.ref t, .int p0]) (st' := [.int (2 : Int32), .ref t]) (h2 := h) rfl rfl (fun C Cr hc kk => x_aload_n C (v := .ref t) rfl rfl dX4_enter_9 (x_iconst C (2 : Int32) (by decide) dX4_enter_10 (kk))) ?_
    refine zX_call (as := [.ref t, .int (2 : Int32)]) (st := []) (fun C hM hc kk => f_callV C [.int (2 : Int32)] hM kX4_fail vX4_fail lX4_75 ⟨by decide, by decide⟩ (rfl : vwCl[4]? = some (RX4, TX4, 14)) g1 rfl hc (Nat.le_of_ble_eq_true rfl) rfl dX4_enter_11 kk) (zC.mono H ?_)
    rintro r0 h3 ⟨x4, rfl, H⟩
    show zX mX4_enter 14 [.ref t, .int p0] [.int x4] h3 Q
    refine zX_seg (pc' := 15) (L' := [.ref t, .int p0]) (st' := []) (h2 := h3) rfl rfl (fun C Cr hc kk => x_pop C rfl dX4_enter_14 (kk)) ?_
    exact zX_wk (wkK (wkK wkN)) H
set_option maxHeartbeats 20000000 in
theorem bX4_enter_15 (l0 : Nat) (l1 : Int32) (h : zH) (Q : Option Value → zH → Prop) (H : oK h l0 4 ∧ (∀ h2 : zH, h2 = (pF h l0 6 (.int ((gI h l0 6) + (1 : Int32)))) → (zC mX4_push [.ref l0, .int l1] h2 (fun r0 h4 => r0 = none ∧ (oK h4 l0 4 ∧ (∃ a6 : Nat, gR h4 l0 0 = some a6 ∧ (oK h4 a6 8 ∧ (zC mX8_advance [.ref a6] h4 (fun r0 h8 => r0 = none ∧ (Q none h8)))))))))) : zX mX4_enter 15 [.ref l0, .int l1] [] h Q := by
  obtain ⟨g1, H⟩ := H
  refine zX_seg (pc' := 25) (L' := [.ref l0, .int l1]) (st' := []) (h2 := (pF h l0 6 (.int ((gI h l0 6) + (1 : Int32))))) rfl rfl (fun C Cr hc kk => x_aload_n C (v := .ref l0) rfl rfl dX4_enter_15 (x_dup C rfl dX4_enter_16 (f_getI C lX4_127 g1 rfl dX4_enter_17 (x_iconst C (1 : Int32) (by decide) dX4_enter_20 (x_iadd C dX4_enter_21 (f_putI C lX4_127 tX4 nX4_6 g1 rfl rfl dX4_enter_22 (kk))))))) ?_
  obtain ⟨h2, eh2⟩ : ∃ y : zH, y = (pF h l0 6 (.int ((gI h l0 6) + (1 : Int32)))) := ⟨_, rfl⟩
  replace H := H h2 eh2
  rw [← eh2]
  have g3 : oK h2 l0 4 := by rw [eh2]; exact oK_pF' g1 rfl rfl g1
  refine zX_seg (pc' := 27) (L' := [.ref l0, .int l1]) (st' := [.int l1, .ref l0]) (h2 := h2) rfl rfl (fun C Cr hc kk => x_aload_n C (v := .ref l0) rfl rfl dX4_enter_25 (x_iload_n C rfl dX4_enter_26 (kk))) ?_
  refine zX_call (as := [.ref l0, .int l1]) (st := []) (fun C hM hc kk => f_callV C [.int l1] hM kX4_push vX4_push lX4_245 ⟨by decide, by decide⟩ (rfl : vwCl[4]? = some (RX4, TX4, 14)) g3 rfl hc (Nat.le_of_ble_eq_true rfl) rfl dX4_enter_27 kk) (zC.mono H ?_)
  rintro r0 h4 ⟨rfl, H⟩
  show zX mX4_enter 30 [.ref l0, .int l1] [] h4 Q
  obtain ⟨g5, H⟩ := H
  obtain ⟨a6, ea6, H⟩ := H
  refine zX_seg (pc' := 34) (L' := [.ref l0, .int l1]) (st' := [.ref a6]) (h2 := h4) rfl rfl (fun C Cr hc kk => x_aload_n C (v := .ref l0) rfl rfl dX4_enter_30 (f_getR1 C lX4_12 g5 rfl ea6 dX4_enter_31 (kk))) ?_
  obtain ⟨g7, H⟩ := H
  refine zX_call (as := [.ref a6]) (st := []) (fun C hM hc kk => f_callVN C [] hM kX8_advance vX8_advance lX4_133 ⟨by decide, by decide⟩ (rfl : vwCl[8]? = some (RX8, TX8, 11)) g7 rfl hc (Nat.le_of_ble_eq_true rfl) rfl dX4_enter_34 kk) (zC.mono H ?_)
  rintro r0 h8 ⟨rfl, H⟩
  show zX mX4_enter 37 [.ref l0, .int l1] [] h8 Q
  exact zX_ret none (fun C Cr hc => x_ret C Cr rfl hc dX4_enter_37 ⟨rfl, rfl⟩) H
theorem nX4_enter (t : Nat) (p0 : Int32) (h : zH) (Q : Option Value → zH → Prop) (H : zX mX4_enter 0 [.ref t, .int p0] [] h Q) : zC mX4_enter [.ref t, .int p0] h Q := zC_of (by decide +kernel) (by simp) (Nat.le_of_ble_eq_true rfl) H
set_option maxHeartbeats 20000000 in
theorem bX4_push_0 (t : Nat) (p0 : Int32) (h : zH) (Q : Option Value → zH → Prop) (H : oK h t 4 ∧ (∃ a2 : Nat, gR h t 2 = some a2 ∧ (iK h a2 0 ∧ (((gI h t 5) < (nI (aN h a2)) → (zX mX4_push 18 [.ref t, .int p0] [] h Q)) ∧ (¬ ((gI h t 5) < (nI (aN h a2))) → (zC mX4_fail [.ref t, .int (2 : Int32)] h (fun r0 h5 => ∃ x6 : Int32, r0 = some (.int x6) ∧ (zX mX4_push 18 [.ref t, .int p0] [] h5 Q)))))))) : zX mX4_push 0 [.ref t, .int p0] [] h Q := by
  obtain ⟨g1, H⟩ := H
  obtain ⟨a2, ea2, H⟩ := H
  obtain ⟨g3, H⟩ := H
  refine zX_seg (pc' := 9) (L' := [.ref t, .int p0]) (st' := [.int (nI (aN h a2)), .int (gI h t 5)]) (h2 := h) rfl rfl (fun C Cr hc kk => x_aload_n C (v := .ref t) rfl rfl dX4_push_0 (f_getI C lX4_124 g1 rfl dX4_push_1 (x_aload_n C (v := .ref t) rfl rfl dX4_push_4 (f_getR1 C lX4_22 g1 rfl ea2 dX4_push_5 (f_alenI C (by decide) g3 dX4_push_8 (kk)))))) ?_
  refine zX_br (p1 := 18) (p2 := 12) (st' := []) ((gI h t 5) < (nI (aN h a2))) (fun C kt kf => x_icmp_lt C 18 dX4_push_9 (by decide) kt kf) (fun q4 => ?_) (fun q4 => ?_)
  · replace H := H.1 q4
    exact zX_wk (wkK (wkK wkN)) H
  · replace H := H.2 q4
    refine zX_seg (pc' := 14) (L' := [.ref t, .int p0]) (st' := [.int (2 : Int32), .ref t]) (h2 := h) rfl rfl (fun C Cr hc kk => x_aload_n C (v := .ref t) rfl rfl dX4_push_12 (x_iconst C (2 : Int32) (by decide) dX4_push_13 (kk))) ?_
    refine zX_call (as := [.ref t, .int (2 : Int32)]) (st := []) (fun C hM hc kk => f_callV C [.int (2 : Int32)] hM kX4_fail vX4_fail lX4_75 ⟨by decide, by decide⟩ (rfl : vwCl[4]? = some (RX4, TX4, 14)) g1 rfl hc (Nat.le_of_ble_eq_true rfl) rfl dX4_push_14 kk) (zC.mono H ?_)
    rintro r0 h5 ⟨x6, rfl, H⟩
    show zX mX4_push 17 [.ref t, .int p0] [.int x6] h5 Q
    refine zX_seg (pc' := 18) (L' := [.ref t, .int p0]) (st' := []) (h2 := h5) rfl rfl (fun C Cr hc kk => x_pop C rfl dX4_push_17 (kk)) ?_
    exact zX_wk (wkK (wkK wkN)) H
set_option maxHeartbeats 20000000 in
theorem bX4_push_18 (l0 : Nat) (l1 : Int32) (h : zH) (Q : Option Value → zH → Prop) (H : oK h l0 4 ∧ (∃ a2 : Nat, gR h l0 2 = some a2 ∧ (zC mX11_put [.ref a2, .int (gI h l0 5), .int l1] h (fun r0 h3 => r0 = none ∧ (oK h3 l0 4 ∧ (∀ h5 : zH, h5 = (pF h3 l0 5 (.int ((gI h3 l0 5) + (1 : Int32)))) → (Q none h5))))))) : zX mX4_push 18 [.ref l0, .int l1] [] h Q := by
  obtain ⟨g1, H⟩ := H
  obtain ⟨a2, ea2, H⟩ := H
  refine zX_seg (pc' := 27) (L' := [.ref l0, .int l1]) (st' := [.int l1, .int (gI h l0 5), .ref a2]) (h2 := h) rfl rfl (fun C Cr hc kk => x_aload_n C (v := .ref l0) rfl rfl dX4_push_18 (f_getR1 C lX4_22 g1 rfl ea2 dX4_push_19 (x_aload_n C (v := .ref l0) rfl rfl dX4_push_22 (f_getI C lX4_124 g1 rfl dX4_push_23 (x_iload_n C rfl dX4_push_26 (kk)))))) ?_
  refine zX_call (as := [.ref a2, .int (gI h l0 5), .int l1]) (st := []) (fun C hM hc kk => x_callSN C [.ref a2, .int (gI h l0 5), .int l1] hM kX11_put sX11_put lX4_216 ⟨by decide, by decide⟩ rfl hc (Nat.le_of_ble_eq_true rfl) rfl dX4_push_27 kk) (zC.mono H ?_)
  rintro r0 h3 ⟨rfl, H⟩
  show zX mX4_push 30 [.ref l0, .int l1] [] h3 Q
  obtain ⟨g4, H⟩ := H
  refine zX_seg (pc' := 40) (L' := [.ref l0, .int l1]) (st' := []) (h2 := (pF h3 l0 5 (.int ((gI h3 l0 5) + (1 : Int32))))) rfl rfl (fun C Cr hc kk => x_aload_n C (v := .ref l0) rfl rfl dX4_push_30 (x_dup C rfl dX4_push_31 (f_getI C lX4_124 g4 rfl dX4_push_32 (x_iconst C (1 : Int32) (by decide) dX4_push_35 (x_iadd C dX4_push_36 (f_putI C lX4_124 tX4 nX4_5 g4 rfl rfl dX4_push_37 (kk))))))) ?_
  obtain ⟨h5, eh5⟩ : ∃ y : zH, y = (pF h3 l0 5 (.int ((gI h3 l0 5) + (1 : Int32)))) := ⟨_, rfl⟩
  replace H := H h5 eh5
  rw [← eh5]
  have g6 : oK h5 l0 4 := by rw [eh5]; exact oK_pF' g4 rfl rfl g4
  exact zX_ret none (fun C Cr hc => x_ret C Cr rfl hc dX4_push_40 ⟨rfl, rfl⟩) H
theorem nX4_push (t : Nat) (p0 : Int32) (h : zH) (Q : Option Value → zH → Prop) (H : zX mX4_push 0 [.ref t, .int p0] [] h Q) : zC mX4_push [.ref t, .int p0] h Q := zC_of (by decide +kernel) (by simp) (Nat.le_of_ble_eq_true rfl) H
set_option maxHeartbeats 20000000 in
theorem bX4_drop_0 (t : Nat) (p0 : Int32) (h : zH) (Q : Option Value → zH → Prop) (H : (p0 = (6 : Int32) → (zX mX4_drop 11 [.ref t, .float 0] [] h Q)) ∧ (¬ (p0 = (6 : Int32)) → (((3 : Int32) < p0 → (oK h t 4 ∧ (∀ h4 : zH, h4 = (pF h t 5 (.int ((gI h t 5) - (1 : Int32)))) → (Q none h4)))) ∧ (¬ ((3 : Int32) < p0) → (zX mX4_drop 11 [.ref t, .float 0] [] h Q))))) : zX mX4_drop 0 [.ref t, .int p0] [] h Q := by
  refine zX_seg (pc' := 3) (L' := [.ref t, .int p0]) (st' := [.int (6 : Int32), .int p0]) (h2 := h) rfl rfl (fun C Cr hc kk => x_iload_n C rfl dX4_drop_0 (x_bipush C (6 : Int32) (by decide) dX4_drop_1 (kk))) ?_
  refine zX_br (p1 := 11) (p2 := 6) (st' := []) (p0 = (6 : Int32)) (fun C kt kf => x_icmp_eq C 11 dX4_drop_3 (by decide) kt kf) (fun q1 => ?_) (fun q1 => ?_)
  · replace H := H.1 q1
    exact zX_wk (wkK (wkD wkN)) H
  · replace H := H.2 q1
    refine zX_seg (pc' := 8) (L' := [.ref t, .int p0]) (st' := [.int (3 : Int32), .int p0]) (h2 := h) rfl rfl (fun C Cr hc kk => x_iload_n C rfl dX4_drop_6 (x_iconst C (3 : Int32) (by decide) dX4_drop_7 (kk))) ?_
    refine zX_br (p1 := 21) (p2 := 11) (st' := []) ((3 : Int32) < p0) (fun C kt kf => x_icmp_gt C 21 dX4_drop_8 (by decide) kt kf) (fun q2 => ?_) (fun q2 => ?_)
    · replace H := H.1 q2
      obtain ⟨g3, H⟩ := H
      refine zX_seg (pc' := 31) (L' := [.ref t, .int p0]) (st' := []) (h2 := (pF h t 5 (.int ((gI h t 5) - (1 : Int32))))) rfl rfl (fun C Cr hc kk => x_aload_n C (v := .ref t) rfl rfl dX4_drop_21 (x_dup C rfl dX4_drop_22 (f_getI C lX4_124 g3 rfl dX4_drop_23 (x_iconst C (1 : Int32) (by decide) dX4_drop_26 (x_isub C dX4_drop_27 (f_putI C lX4_124 tX4 nX4_5 g3 rfl rfl dX4_drop_28 (kk))))))) ?_
      obtain ⟨h4, eh4⟩ : ∃ y : zH, y = (pF h t 5 (.int ((gI h t 5) - (1 : Int32)))) := ⟨_, rfl⟩
      replace H := H h4 eh4
      rw [← eh4]
      have g5 : oK h4 t 4 := by rw [eh4]; exact oK_pF' g3 rfl rfl g3
      exact zX_ret none (fun C Cr hc => x_ret C Cr rfl hc dX4_drop_31 ⟨rfl, rfl⟩) H
    · replace H := H.2 q2
      exact zX_wk (wkK (wkD wkN)) H
set_option maxHeartbeats 20000000 in
theorem bX4_drop_11 (l0 : Nat) (h : zH) (Q : Option Value → zH → Prop) (H : oK h l0 4 ∧ (∀ h2 : zH, h2 = (pF h l0 6 (.int ((gI h l0 6) - (1 : Int32)))) → (∀ h4 : zH, h4 = (pF h2 l0 5 (.int ((gI h2 l0 5) - (1 : Int32)))) → (Q none h4)))) : zX mX4_drop 11 [.ref l0, .float 0] [] h Q := by
  obtain ⟨g1, H⟩ := H
  refine zX_seg (pc' := 21) (L' := [.ref l0, .float 0]) (st' := []) (h2 := (pF h l0 6 (.int ((gI h l0 6) - (1 : Int32))))) rfl rfl (fun C Cr hc kk => x_aload_n C (v := .ref l0) rfl rfl dX4_drop_11 (x_dup C rfl dX4_drop_12 (f_getI C lX4_127 g1 rfl dX4_drop_13 (x_iconst C (1 : Int32) (by decide) dX4_drop_16 (x_isub C dX4_drop_17 (f_putI C lX4_127 tX4 nX4_6 g1 rfl rfl dX4_drop_18 (kk))))))) ?_
  obtain ⟨h2, eh2⟩ : ∃ y : zH, y = (pF h l0 6 (.int ((gI h l0 6) - (1 : Int32)))) := ⟨_, rfl⟩
  replace H := H h2 eh2
  rw [← eh2]
  have g3 : oK h2 l0 4 := by rw [eh2]; exact oK_pF' g1 rfl rfl g1
  refine zX_seg (pc' := 31) (L' := [.ref l0, .float 0]) (st' := []) (h2 := (pF h2 l0 5 (.int ((gI h2 l0 5) - (1 : Int32))))) rfl rfl (fun C Cr hc kk => x_aload_n C (v := .ref l0) rfl rfl dX4_drop_21 (x_dup C rfl dX4_drop_22 (f_getI C lX4_124 g3 rfl dX4_drop_23 (x_iconst C (1 : Int32) (by decide) dX4_drop_26 (x_isub C dX4_drop_27 (f_putI C lX4_124 tX4 nX4_5 g3 rfl rfl dX4_drop_28 (kk))))))) ?_
  obtain ⟨h4, eh4⟩ : ∃ y : zH, y = (pF h2 l0 5 (.int ((gI h2 l0 5) - (1 : Int32)))) := ⟨_, rfl⟩
  replace H := H h4 eh4
  rw [← eh4]
  have g5 : oK h4 l0 4 := by rw [eh4]; exact oK_pF' g3 rfl rfl g3
  exact zX_ret none (fun C Cr hc => x_ret C Cr rfl hc dX4_drop_31 ⟨rfl, rfl⟩) H
theorem nX4_drop (t : Nat) (p0 : Int32) (h : zH) (Q : Option Value → zH → Prop) (H : zX mX4_drop 0 [.ref t, .int p0] [] h Q) : zC mX4_drop [.ref t, .int p0] h Q := zC_of (by decide +kernel) (by simp) (Nat.le_of_ble_eq_true rfl) H
set_option maxHeartbeats 20000000 in
theorem bX4_settle_0 (t : Nat) (p0 : Int32) (h : zH) (Q : Option Value → zH → Prop) (H : oK h t 4 ∧ (zC mX4_topKind [.ref t] h (fun r0 h2 => ∃ x3 : Int32, r0 = some (.int x3) ∧ (oK h2 t 4 ∧ (zX mX4_settle 10 [.ref t, .int p0, .int x3, .int (gI h2 t 5)] [] h2 Q))))) : zX mX4_settle 0 [.ref t, .int p0, .float 0, .float 0] [] h Q := by
  refine zX_seg (pc' := 1) (L' := [.ref t, .int p0, .float 0, .float 0]) (st' := [.ref t]) (h2 := h) rfl rfl (fun C Cr hc kk => x_aload_n C (v := .ref t) rfl rfl dX4_settle_0 (kk)) ?_
  obtain ⟨g1, H⟩ := H
  refine zX_call (as := [.ref t]) (st := []) (fun C hM hc kk => f_callV C [] hM kX4_topKind vX4_topKind lX4_206 ⟨by decide, by decide⟩ (rfl : vwCl[4]? = some (RX4, TX4, 14)) g1 rfl hc (Nat.le_of_ble_eq_true rfl) rfl dX4_settle_1 kk) (zC.mono H ?_)
  rintro r0 h2 ⟨x3, rfl, H⟩
  show zX mX4_settle 4 [.ref t, .int p0, .float 0, .float 0] [.int x3] h2 Q
  obtain ⟨g4, H⟩ := H
  refine zX_seg (pc' := 10) (L' := [.ref t, .int p0, .int x3, .int (gI h2 t 5)]) (st' := []) (h2 := h2) rfl rfl (fun C Cr hc kk => x_istore_n C (by decide) dX4_settle_4 (x_aload_n C (v := .ref t) rfl rfl dX4_settle_5 (f_getI C lX4_124 g4 rfl dX4_settle_6 (x_istore_n C (by decide) dX4_settle_9 (kk))))) ?_
  exact zX_wk (wkK (wkK (wkK (wkK wkN)))) H
set_option maxHeartbeats 20000000 in
theorem bX4_settle_10 (l0 : Nat) (l1 : Int32) (l2 : Int32) (l3 : Int32) (h : zH) (Q : Option Value → zH → Prop) (H : (l3 ≤ 0 → (Q none h)) ∧ (¬ (l3 ≤ 0) → (zC mX4_binding [.int l2] h (fun r0 h2 => ∃ x3 : Int32, r0 = some (.int x3) ∧ ((x3 < l1 → (Q none h2)) ∧ (¬ (x3 < l1) → (oK h2 l0 4 ∧ (zC mX4_addStep [.ref l0, .int l2, .int (0 : Int32), .int (0 : Int32)] h2 (fun r0 h6 => r0 = none ∧ (oK h6 l0 4 ∧ (zC mX4_drop [.ref l0, .int l2] h6 (fun r0 h8 => r0 = none ∧ (oK h8 l0 4 ∧ (zC mX4_topKind [.ref l0] h8 (fun r0 h10 => ∃ x11 : Int32, r0 = some (.int x11) ∧ (zX mX4_settle 10 [.ref l0, .int l1, .int x11, .int (l3 + (-1))] [] h10 Q)))))))))))))))) : zX mX4_settle 10 [.ref l0, .int l1, .int l2, .int l3] [] h Q := by
  refine zX_seg (pc' := 11) (L' := [.ref l0, .int l1, .int l2, .int l3]) (st' := [.int l3]) (h2 := h) rfl rfl (fun C Cr hc kk => x_iload_n C rfl dX4_settle_10 (kk)) ?_
  refine zX_br (p1 := 45) (p2 := 14) (st' := []) (l3 ≤ 0) (fun C kt kf => x_if_le C 45 dX4_settle_11 (by decide) kt kf) (fun q1 => ?_) (fun q1 => ?_)
  · replace H := H.1 q1
    exact zX_ret none (fun C Cr hc => x_ret C Cr rfl hc dX4_settle_45 ⟨rfl, rfl⟩) H
  · replace H := H.2 q1
    refine zX_seg (pc' := 15) (L' := [.ref l0, .int l1, .int l2, .int l3]) (st' := [.int l2]) (h2 := h) rfl rfl (fun C Cr hc kk => x_iload_n C rfl dX4_settle_14 (kk)) ?_
    refine zX_call (as := [.int l2]) (st := []) (fun C hM hc kk => x_callS C [.int l2] hM kX4_binding sX4_binding lX4_220 ⟨by decide, by decide⟩ rfl hc (Nat.le_of_ble_eq_true rfl) rfl dX4_settle_15 kk) (zC.mono H ?_)
    rintro r0 h2 ⟨x3, rfl, H⟩
    show zX mX4_settle 18 [.ref l0, .int l1, .int l2, .int l3] [.int x3] h2 Q
    refine zX_seg (pc' := 19) (L' := [.ref l0, .int l1, .int l2, .int l3]) (st' := [.int l1, .int x3]) (h2 := h2) rfl rfl (fun C Cr hc kk => x_iload_n C rfl dX4_settle_18 (kk)) ?_
    refine zX_br (p1 := 45) (p2 := 22) (st' := []) (x3 < l1) (fun C kt kf => x_icmp_lt C 45 dX4_settle_19 (by decide) kt kf) (fun q4 => ?_) (fun q4 => ?_)
    · replace H := H.1 q4
      exact zX_ret none (fun C Cr hc => x_ret C Cr rfl hc dX4_settle_45 ⟨rfl, rfl⟩) H
    · replace H := H.2 q4
      refine zX_seg (pc' := 26) (L' := [.ref l0, .int l1, .int l2, .int l3]) (st' := [.int (0 : Int32), .int (0 : Int32), .int l2, .ref l0]) (h2 := h2) rfl rfl (fun C Cr hc kk => x_aload_n C (v := .ref l0) rfl rfl dX4_settle_22 (x_iload_n C rfl dX4_settle_23 (x_iconst C (0 : Int32) (by decide) dX4_settle_24 (x_iconst C (0 : Int32) (by decide) dX4_settle_25 (kk))))) ?_
      obtain ⟨g5, H⟩ := H
      refine zX_call (as := [.ref l0, .int l2, .int (0 : Int32), .int (0 : Int32)]) (st := []) (fun C hM hc kk => f_callV C [.int l2, .int (0 : Int32), .int (0 : Int32)] hM kX4_addStep vX4_addStep lX4_196 ⟨by decide, by decide⟩ (rfl : vwCl[4]? = some (RX4, TX4, 14)) g5 rfl hc (Nat.le_of_ble_eq_true rfl) rfl dX4_settle_26 kk) (zC.mono H ?_)
      rintro r0 h6 ⟨rfl, H⟩
      show zX mX4_settle 29 [.ref l0, .int l1, .int l2, .int l3] [] h6 Q
      refine zX_seg (pc' := 31) (L' := [.ref l0, .int l1, .int l2, .int l3]) (st' := [.int l2, .ref l0]) (h2 := h6) rfl rfl (fun C Cr hc kk => x_aload_n C (v := .ref l0) rfl rfl dX4_settle_29 (x_iload_n C rfl dX4_settle_30 (kk))) ?_
      obtain ⟨g7, H⟩ := H
      refine zX_call (as := [.ref l0, .int l2]) (st := []) (fun C hM hc kk => f_callV C [.int l2] hM kX4_drop vX4_drop lX4_209 ⟨by decide, by decide⟩ (rfl : vwCl[4]? = some (RX4, TX4, 14)) g7 rfl hc (Nat.le_of_ble_eq_true rfl) rfl dX4_settle_31 kk) (zC.mono H ?_)
      rintro r0 h8 ⟨rfl, H⟩
      show zX mX4_settle 34 [.ref l0, .int l1, .int l2, .int l3] [] h8 Q
      refine zX_seg (pc' := 35) (L' := [.ref l0, .int l1, .int l2, .int l3]) (st' := [.ref l0]) (h2 := h8) rfl rfl (fun C Cr hc kk => x_aload_n C (v := .ref l0) rfl rfl dX4_settle_34 (kk)) ?_
      obtain ⟨g9, H⟩ := H
      refine zX_call (as := [.ref l0]) (st := []) (fun C hM hc kk => f_callV C [] hM kX4_topKind vX4_topKind lX4_206 ⟨by decide, by decide⟩ (rfl : vwCl[4]? = some (RX4, TX4, 14)) g9 rfl hc (Nat.le_of_ble_eq_true rfl) rfl dX4_settle_35 kk) (zC.mono H ?_)
      rintro r0 h10 ⟨x11, rfl, H⟩
      show zX mX4_settle 38 [.ref l0, .int l1, .int l2, .int l3] [.int x11] h10 Q
      refine zX_seg (pc' := 10) (L' := [.ref l0, .int l1, .int x11, .int (l3 + (-1))]) (st' := []) (h2 := h10) rfl rfl (fun C Cr hc kk => x_istore_n C (by decide) dX4_settle_38 (x_iinc C (l3 + (-1)) rfl (congrArg (HAdd.hAdd _) (by decide)) (by decide) dX4_settle_39 (x_goto C 10 dX4_settle_42 (by decide) (kk)))) ?_
      exact zX_wk (wkK (wkK (wkK (wkK wkN)))) H
theorem nX4_settle (t : Nat) (p0 : Int32) (h : zH) (Q : Option Value → zH → Prop) (H : zX mX4_settle 0 [.ref t, .int p0, .float 0, .float 0] [] h Q) : zC mX4_settle [.ref t, .int p0] h Q := zC_of (by decide +kernel) (by simp) (Nat.le_of_ble_eq_true rfl) H
set_option maxHeartbeats 20000000 in
theorem bX4_topKind_0 (t : Nat) (h : zH) (Q : Option Value → zH → Prop) (H : oK h t 4 ∧ (∃ a2 : Nat, gR h t 2 = some a2 ∧ (zC mX11_at [.ref a2, .int ((gI h t 5) - (1 : Int32))] h (fun r0 h3 => ∃ x4 : Int32, r0 = some (.int x4) ∧ (Q (some (.int (x4 &&& (15 : Int32)))) h3))))) : zX mX4_topKind 0 [.ref t] [] h Q := by
  obtain ⟨g1, H⟩ := H
  obtain ⟨a2, ea2, H⟩ := H
  refine zX_seg (pc' := 10) (L' := [.ref t]) (st' := [.int ((gI h t 5) - (1 : Int32)), .ref a2]) (h2 := h) rfl rfl (fun C Cr hc kk => x_aload_n C (v := .ref t) rfl rfl dX4_topKind_0 (f_getR1 C lX4_22 g1 rfl ea2 dX4_topKind_1 (x_aload_n C (v := .ref t) rfl rfl dX4_topKind_4 (f_getI C lX4_124 g1 rfl dX4_topKind_5 (x_iconst C (1 : Int32) (by decide) dX4_topKind_8 (x_isub C dX4_topKind_9 (kk))))))) ?_
  refine zX_call (as := [.ref a2, .int ((gI h t 5) - (1 : Int32))]) (st := []) (fun C hM hc kk => x_callSN C [.ref a2, .int ((gI h t 5) - (1 : Int32))] hM kX11_at sX11_at lX4_212 ⟨by decide, by decide⟩ rfl hc (Nat.le_of_ble_eq_true rfl) rfl dX4_topKind_10 kk) (zC.mono H ?_)
  rintro r0 h3 ⟨x4, rfl, H⟩
  show zX mX4_topKind 13 [.ref t] [.int x4] h3 Q
  refine zX_seg (pc' := 16) (L' := [.ref t]) (st' := [.int (x4 &&& (15 : Int32))]) (h2 := h3) rfl rfl (fun C Cr hc kk => x_bipush C (15 : Int32) (by decide) dX4_topKind_13 (x_iand C dX4_topKind_15 (kk))) ?_
  exact zX_ret (some (.int (x4 &&& (15 : Int32)))) (fun C Cr hc => x_iret C Cr rfl rfl hc dX4_topKind_16 ⟨rfl, rfl⟩) H
theorem nX4_topKind (t : Nat) (h : zH) (Q : Option Value → zH → Prop) (H : zX mX4_topKind 0 [.ref t] [] h Q) : zC mX4_topKind [.ref t] h Q := zC_of (by decide +kernel) (by simp) (Nat.le_of_ble_eq_true rfl) H
set_option maxHeartbeats 20000000 in
theorem bX4_binding_0 (p0 : Int32) (h : zH) (Q : Option Value → zH → Prop) (H : zC mX11_at [.retAddr 1, .int p0] h (fun r0 h1 => ∃ x2 : Int32, r0 = some (.int x2) ∧ (Q (some (.int x2)) h1))) : zX mX4_binding 0 [.int p0] [] h Q := by
  refine zX_seg (pc' := 4) (L' := [.int p0]) (st' := [.int p0, .retAddr 1]) (h2 := h) rfl rfl (fun C Cr hc kk => f_getsB C rfl dX4_binding_0 (x_iload_n C rfl dX4_binding_3 (kk))) ?_
  refine zX_call (as := [.retAddr 1, .int p0]) (st := []) (fun C hM hc kk => x_callSN C [.retAddr 1, .int p0] hM kX11_at sX11_at lX4_212 ⟨by decide, by decide⟩ rfl hc (Nat.le_of_ble_eq_true rfl) rfl dX4_binding_4 kk) (zC.mono H ?_)
  rintro r0 h1 ⟨x2, rfl, H⟩
  show zX mX4_binding 7 [.int p0] [.int x2] h1 Q
  exact zX_ret (some (.int x2)) (fun C Cr hc => x_iret C Cr rfl rfl hc dX4_binding_7 ⟨rfl, rfl⟩) H
theorem nX4_binding (p0 : Int32) (h : zH) (Q : Option Value → zH → Prop) (H : zX mX4_binding 0 [.int p0] [] h Q) : zC mX4_binding [.int p0] h Q := zC_of (by decide +kernel) (by simp) (Nat.le_of_ble_eq_true rfl) H
set_option maxHeartbeats 20000000 in
theorem bX4_addStep_0 (t : Nat) (p0 : Int32) (p1 : Int32) (p2 : Int32) (h : zH) (Q : Option Value → zH → Prop) (H : oK h t 4 ∧ (∃ a2 : Nat, gR h t 1 = some a2 ∧ (zC mX11_put [.ref a2, .int (gI h t 4), .int ((p0 + ((16 : Int32) * p1)) + ((256 : Int32) * p2))] h (fun r0 h3 => r0 = none ∧ (oK h3 t 4 ∧ (∀ h5 : zH, h5 = (pF h3 t 4 (.int ((gI h3 t 4) + (1 : Int32)))) → (Q none h5))))))) : zX mX4_addStep 0 [.ref t, .int p0, .int p1, .int p2] [] h Q := by
  obtain ⟨g1, H⟩ := H
  obtain ⟨a2, ea2, H⟩ := H
  refine zX_seg (pc' := 20) (L' := [.ref t, .int p0, .int p1, .int p2]) (st' := [.int ((p0 + ((16 : Int32) * p1)) + ((256 : Int32) * p2)), .int (gI h t 4), .ref a2]) (h2 := h) rfl rfl (fun C Cr hc kk => x_aload_n C (v := .ref t) rfl rfl dX4_addStep_0 (f_getR1 C lX4_18 g1 rfl ea2 dX4_addStep_1 (x_aload_n C (v := .ref t) rfl rfl dX4_addStep_4 (f_getI C lX4_86 g1 rfl dX4_addStep_5 (x_iload_n C rfl dX4_addStep_8 (x_bipush C (16 : Int32) (by decide) dX4_addStep_9 (x_iload_n C rfl dX4_addStep_11 (x_imul C dX4_addStep_12 (x_iadd C dX4_addStep_13 (x_sipush C (256 : Int32) (by decide) dX4_addStep_14 (x_iload_n C rfl dX4_addStep_17 (x_imul C dX4_addStep_18 (x_iadd C dX4_addStep_19 (kk)))))))))))))) ?_
  refine zX_call (as := [.ref a2, .int (gI h t 4), .int ((p0 + ((16 : Int32) * p1)) + ((256 : Int32) * p2))]) (st := []) (fun C hM hc kk => x_callSN C [.ref a2, .int (gI h t 4), .int ((p0 + ((16 : Int32) * p1)) + ((256 : Int32) * p2))] hM kX11_put sX11_put lX4_216 ⟨by decide, by decide⟩ rfl hc (Nat.le_of_ble_eq_true rfl) rfl dX4_addStep_20 kk) (zC.mono H ?_)
  rintro r0 h3 ⟨rfl, H⟩
  show zX mX4_addStep 23 [.ref t, .int p0, .int p1, .int p2] [] h3 Q
  obtain ⟨g4, H⟩ := H
  refine zX_seg (pc' := 33) (L' := [.ref t, .int p0, .int p1, .int p2]) (st' := []) (h2 := (pF h3 t 4 (.int ((gI h3 t 4) + (1 : Int32))))) rfl rfl (fun C Cr hc kk => x_aload_n C (v := .ref t) rfl rfl dX4_addStep_23 (x_dup C rfl dX4_addStep_24 (f_getI C lX4_86 g4 rfl dX4_addStep_25 (x_iconst C (1 : Int32) (by decide) dX4_addStep_28 (x_iadd C dX4_addStep_29 (f_putI C lX4_86 tX4 nX4_4 g4 rfl rfl dX4_addStep_30 (kk))))))) ?_
  obtain ⟨h5, eh5⟩ : ∃ y : zH, y = (pF h3 t 4 (.int ((gI h3 t 4) + (1 : Int32)))) := ⟨_, rfl⟩
  replace H := H h5 eh5
  rw [← eh5]
  have g6 : oK h5 t 4 := by rw [eh5]; exact oK_pF' g4 rfl rfl g4
  exact zX_ret none (fun C Cr hc => x_ret C Cr rfl hc dX4_addStep_33 ⟨rfl, rfl⟩) H
theorem nX4_addStep (t : Nat) (p0 : Int32) (p1 : Int32) (p2 : Int32) (h : zH) (Q : Option Value → zH → Prop) (H : zX mX4_addStep 0 [.ref t, .int p0, .int p1, .int p2] [] h Q) : zC mX4_addStep [.ref t, .int p0, .int p1, .int p2] h Q := zC_of (by decide +kernel) (by simp) (Nat.le_of_ble_eq_true rfl) H
set_option maxHeartbeats 20000000 in
theorem bX8_init_0 (t : Nat) (h : zH) (Q : Option Value → zH → Prop) (H : ∀ h1 : zH, h1 = (zn h (zI 0 1600 (fun _ => 0))) → (oK h1 t 8 ∧ (∀ h4 : zH, h4 = (pF h1 t 0 (zr (some h.1))) → (∀ h7 : zH, h7 = (zn h4 (zL 20 (fun _ => 0))) → (∀ h11 : zH, h11 = (pF h7 t 1 (zr (some h4.1))) → (∀ h15 : zH, h15 = (zn h11 (zI 0 1601 (fun _ => 0))) → (∀ h20 : zH, h20 = (pF h15 t 2 (zr (some h11.1))) → (∀ h25 : zH, h25 = (zn h20 (zI 0 1601 (fun _ => 0))) → (∀ h31 : zH, h31 = (pF h25 t 3 (zr (some h20.1))) → (∀ h37 : zH, h37 = (zn h31 (zL 1601 (fun _ => 0))) → (∀ h44 : zH, h44 = (pF h37 t 4 (zr (some h31.1))) → (zX mX8_init 55 [.ref t, .int (0 : Int32), .long (0 : Int64), .float 0, .int (0 : Int32), .float 0] [] h44 Q)))))))))))) : zX mX8_init 0 [.ref t, .float 0, .float 0, .float 0, .float 0, .float 0] [] h Q := by
  refine zX_seg (pc' := 8) (L' := [.ref t, .float 0, .float 0, .float 0, .float 0, .float 0]) (st' := [.int (1600 : Int32), .ref t]) (h2 := h) rfl rfl (fun C Cr hc kk => x_aload_n C (v := .ref t) rfl rfl dX8_init_0 (x_objInit C lX8_3 oi_i oi_c ⟨by decide, by decide⟩ (Nat.le_of_ble_eq_true rfl) dX8_init_1 (x_aload_n C (v := .ref t) rfl rfl dX8_init_4 (x_sipush C (1600 : Int32) (by decide) dX8_init_5 (kk))))) ?_
  refine zX_new (pc' := 10) (L' := [.ref t, .float 0, .float 0, .float 0, .float 0, .float 0]) (st' := [.ref (h.1), .ref t]) (e := (zI 0 1600 (fun _ => 0))) (fun C z1 z2 kk => x_newa C (at0 := .int) ac_int (Or.inl ⟨rfl, rfl⟩) (by decide) (by decide) (by decide) z1 z2 dX8_init_8 kk) ?_
  obtain ⟨h1, eh1⟩ : ∃ y : zH, y = (zn h (zI 0 1600 (fun _ => 0))) := ⟨_, rfl⟩
  replace H := H h1 eh1
  rw [← eh1]
  have g2 : iK h1 h.1 0 := by rw [eh1]; exact iK_new
  obtain ⟨g3, H⟩ := H
  refine zX_seg (pc' := 13) (L' := [.ref t, .float 0, .float 0, .float 0, .float 0, .float 0]) (st' := []) (h2 := (pF h1 t 0 (zr (some h.1)))) rfl rfl (fun C Cr hc kk => f_putFR C Cr rfl (x := (some h.1)) lX8_9 tX8 nX8_0 g3 rfl (Or.inr ⟨_, rfl⟩) dX8_init_10 (kk)) ?_
  obtain ⟨h4, eh4⟩ : ∃ y : zH, y = (pF h1 t 0 (zr (some h.1))) := ⟨_, rfl⟩
  replace H := H h4 eh4
  rw [← eh4]
  have g5 : iK h4 h.1 0 := by rw [eh4]; exact iK_pF g2
  have g6 : oK h4 t 8 := by rw [eh4]; exact oK_pF' g3 rfl (zmr _) g3
  refine zX_seg (pc' := 16) (L' := [.ref t, .float 0, .float 0, .float 0, .float 0, .float 0]) (st' := [.int (20 : Int32), .ref t]) (h2 := h4) rfl rfl (fun C Cr hc kk => x_aload_n C (v := .ref t) rfl rfl dX8_init_13 (x_bipush C (20 : Int32) (by decide) dX8_init_14 (kk))) ?_
  refine zX_new (pc' := 18) (L' := [.ref t, .float 0, .float 0, .float 0, .float 0, .float 0]) (st' := [.ref (h4.1), .ref t]) (e := (zL 20 (fun _ => 0))) (fun C z1 z2 kk => x_newa C (at0 := .long) ac_long (Or.inr (Or.inr (Or.inr ⟨rfl, rfl⟩))) (by decide) (by decide) (by decide) z1 z2 dX8_init_16 kk) ?_
  obtain ⟨h7, eh7⟩ : ∃ y : zH, y = (zn h4 (zL 20 (fun _ => 0))) := ⟨_, rfl⟩
  replace H := H h7 eh7
  rw [← eh7]
  have g8 : iK h7 h.1 0 := by rw [eh7]; exact iK_zn g5
  have g9 : oK h7 t 8 := by rw [eh7]; exact oK_zn g6
  have g10 : lK h7 h4.1 := by rw [eh7]; exact lK_new
  refine zX_seg (pc' := 21) (L' := [.ref t, .float 0, .float 0, .float 0, .float 0, .float 0]) (st' := []) (h2 := (pF h7 t 1 (zr (some h4.1)))) rfl rfl (fun C Cr hc kk => f_putFR C Cr rfl (x := (some h4.1)) lX8_15 tX8 nX8_1 g9 rfl (Or.inr ⟨_, rfl⟩) dX8_init_18 (kk)) ?_
  obtain ⟨h11, eh11⟩ : ∃ y : zH, y = (pF h7 t 1 (zr (some h4.1))) := ⟨_, rfl⟩
  replace H := H h11 eh11
  rw [← eh11]
  have g12 : iK h11 h.1 0 := by rw [eh11]; exact iK_pF g8
  have g13 : oK h11 t 8 := by rw [eh11]; exact oK_pF' g9 rfl (zmr _) g9
  have g14 : lK h11 h4.1 := by rw [eh11]; exact lK_pF g10
  refine zX_seg (pc' := 25) (L' := [.ref t, .float 0, .float 0, .float 0, .float 0, .float 0]) (st' := [.int (1601 : Int32), .ref t]) (h2 := h11) rfl rfl (fun C Cr hc kk => x_aload_n C (v := .ref t) rfl rfl dX8_init_21 (x_sipush C (1601 : Int32) (by decide) dX8_init_22 (kk))) ?_
  refine zX_new (pc' := 27) (L' := [.ref t, .float 0, .float 0, .float 0, .float 0, .float 0]) (st' := [.ref (h11.1), .ref t]) (e := (zI 0 1601 (fun _ => 0))) (fun C z1 z2 kk => x_newa C (at0 := .int) ac_int (Or.inl ⟨rfl, rfl⟩) (by decide) (by decide) (by decide) z1 z2 dX8_init_25 kk) ?_
  obtain ⟨h15, eh15⟩ : ∃ y : zH, y = (zn h11 (zI 0 1601 (fun _ => 0))) := ⟨_, rfl⟩
  replace H := H h15 eh15
  rw [← eh15]
  have g16 : iK h15 h.1 0 := by rw [eh15]; exact iK_zn g12
  have g17 : oK h15 t 8 := by rw [eh15]; exact oK_zn g13
  have g18 : lK h15 h4.1 := by rw [eh15]; exact lK_zn g14
  have g19 : iK h15 h11.1 0 := by rw [eh15]; exact iK_new
  refine zX_seg (pc' := 30) (L' := [.ref t, .float 0, .float 0, .float 0, .float 0, .float 0]) (st' := []) (h2 := (pF h15 t 2 (zr (some h11.1)))) rfl rfl (fun C Cr hc kk => f_putFR C Cr rfl (x := (some h11.1)) lX8_19 tX8 nX8_2 g17 rfl (Or.inr ⟨_, rfl⟩) dX8_init_27 (kk)) ?_
  obtain ⟨h20, eh20⟩ : ∃ y : zH, y = (pF h15 t 2 (zr (some h11.1))) := ⟨_, rfl⟩
  replace H := H h20 eh20
  rw [← eh20]
  have g21 : iK h20 h.1 0 := by rw [eh20]; exact iK_pF g16
  have g22 : oK h20 t 8 := by rw [eh20]; exact oK_pF' g17 rfl (zmr _) g17
  have g23 : lK h20 h4.1 := by rw [eh20]; exact lK_pF g18
  have g24 : iK h20 h11.1 0 := by rw [eh20]; exact iK_pF g19
  refine zX_seg (pc' := 34) (L' := [.ref t, .float 0, .float 0, .float 0, .float 0, .float 0]) (st' := [.int (1601 : Int32), .ref t]) (h2 := h20) rfl rfl (fun C Cr hc kk => x_aload_n C (v := .ref t) rfl rfl dX8_init_30 (x_sipush C (1601 : Int32) (by decide) dX8_init_31 (kk))) ?_
  refine zX_new (pc' := 36) (L' := [.ref t, .float 0, .float 0, .float 0, .float 0, .float 0]) (st' := [.ref (h20.1), .ref t]) (e := (zI 0 1601 (fun _ => 0))) (fun C z1 z2 kk => x_newa C (at0 := .int) ac_int (Or.inl ⟨rfl, rfl⟩) (by decide) (by decide) (by decide) z1 z2 dX8_init_34 kk) ?_
  obtain ⟨h25, eh25⟩ : ∃ y : zH, y = (zn h20 (zI 0 1601 (fun _ => 0))) := ⟨_, rfl⟩
  replace H := H h25 eh25
  rw [← eh25]
  have g26 : iK h25 h.1 0 := by rw [eh25]; exact iK_zn g21
  have g27 : oK h25 t 8 := by rw [eh25]; exact oK_zn g22
  have g28 : lK h25 h4.1 := by rw [eh25]; exact lK_zn g23
  have g29 : iK h25 h11.1 0 := by rw [eh25]; exact iK_zn g24
  have g30 : iK h25 h20.1 0 := by rw [eh25]; exact iK_new
  refine zX_seg (pc' := 39) (L' := [.ref t, .float 0, .float 0, .float 0, .float 0, .float 0]) (st' := []) (h2 := (pF h25 t 3 (zr (some h20.1)))) rfl rfl (fun C Cr hc kk => f_putFR C Cr rfl (x := (some h20.1)) lX8_22 tX8 nX8_3 g27 rfl (Or.inr ⟨_, rfl⟩) dX8_init_36 (kk)) ?_
  obtain ⟨h31, eh31⟩ : ∃ y : zH, y = (pF h25 t 3 (zr (some h20.1))) := ⟨_, rfl⟩
  replace H := H h31 eh31
  rw [← eh31]
  have g32 : iK h31 h.1 0 := by rw [eh31]; exact iK_pF g26
  have g33 : oK h31 t 8 := by rw [eh31]; exact oK_pF' g27 rfl (zmr _) g27
  have g34 : lK h31 h4.1 := by rw [eh31]; exact lK_pF g28
  have g35 : iK h31 h11.1 0 := by rw [eh31]; exact iK_pF g29
  have g36 : iK h31 h20.1 0 := by rw [eh31]; exact iK_pF g30
  refine zX_seg (pc' := 43) (L' := [.ref t, .float 0, .float 0, .float 0, .float 0, .float 0]) (st' := [.int (1601 : Int32), .ref t]) (h2 := h31) rfl rfl (fun C Cr hc kk => x_aload_n C (v := .ref t) rfl rfl dX8_init_39 (x_sipush C (1601 : Int32) (by decide) dX8_init_40 (kk))) ?_
  refine zX_new (pc' := 45) (L' := [.ref t, .float 0, .float 0, .float 0, .float 0, .float 0]) (st' := [.ref (h31.1), .ref t]) (e := (zL 1601 (fun _ => 0))) (fun C z1 z2 kk => x_newa C (at0 := .long) ac_long (Or.inr (Or.inr (Or.inr ⟨rfl, rfl⟩))) (by decide) (by decide) (by decide) z1 z2 dX8_init_43 kk) ?_
  obtain ⟨h37, eh37⟩ : ∃ y : zH, y = (zn h31 (zL 1601 (fun _ => 0))) := ⟨_, rfl⟩
  replace H := H h37 eh37
  rw [← eh37]
  have g38 : iK h37 h.1 0 := by rw [eh37]; exact iK_zn g32
  have g39 : oK h37 t 8 := by rw [eh37]; exact oK_zn g33
  have g40 : lK h37 h4.1 := by rw [eh37]; exact lK_zn g34
  have g41 : iK h37 h11.1 0 := by rw [eh37]; exact iK_zn g35
  have g42 : iK h37 h20.1 0 := by rw [eh37]; exact iK_zn g36
  have g43 : lK h37 h31.1 := by rw [eh37]; exact lK_new
  refine zX_seg (pc' := 48) (L' := [.ref t, .float 0, .float 0, .float 0, .float 0, .float 0]) (st' := []) (h2 := (pF h37 t 4 (zr (some h31.1)))) rfl rfl (fun C Cr hc kk => f_putFR C Cr rfl (x := (some h31.1)) lX8_25 tX8 nX8_4 g39 rfl (Or.inr ⟨_, rfl⟩) dX8_init_45 (kk)) ?_
  obtain ⟨h44, eh44⟩ : ∃ y : zH, y = (pF h37 t 4 (zr (some h31.1))) := ⟨_, rfl⟩
  replace H := H h44 eh44
  rw [← eh44]
  have g45 : iK h44 h.1 0 := by rw [eh44]; exact iK_pF g38
  have g46 : oK h44 t 8 := by rw [eh44]; exact oK_pF' g39 rfl (zmr _) g39
  have g47 : lK h44 h4.1 := by rw [eh44]; exact lK_pF g40
  have g48 : iK h44 h11.1 0 := by rw [eh44]; exact iK_pF g41
  have g49 : iK h44 h20.1 0 := by rw [eh44]; exact iK_pF g42
  have g50 : lK h44 h31.1 := by rw [eh44]; exact lK_pF g43
  refine zX_seg (pc' := 55) (L' := [.ref t, .int (0 : Int32), .long (0 : Int64), .float 0, .int (0 : Int32), .float 0]) (st' := []) (h2 := h44) rfl rfl (fun C Cr hc kk => x_iconst C (0 : Int32) (by decide) dX8_init_48 (x_istore_n C (by decide) dX8_init_49 (x_lconst C (0 : Int64) (by decide) dX8_init_50 (x_lstore_n C (by decide) dX8_init_51 (x_iconst C (0 : Int32) (by decide) dX8_init_52 (x_istore C (by decide) dX8_init_53 (kk))))))) ?_
  exact zX_wk (wkK (wkK (wkK (wkD (wkK (wkD wkN)))))) H
set_option maxHeartbeats 20000000 in
theorem bX8_init_55 (l0 : Nat) (l1 : Int32) (l2 : Int64) (l4 : Int32) (h : zH) (Q : Option Value → zH → Prop) (H : zC mJ0_length_8abf5 [.retAddr 2] h (fun r0 h1 => ∃ x2 : Int32, r0 = some (.int x2) ∧ ((x2 ≤ l4 → (Q none h1)) ∧ (¬ (x2 ≤ l4) → (zC mJ0_charAt_5068e [.retAddr 2, .int l4] h1 (fun r0 h4 => ∃ x5 : Int32, r0 = some (.int x5) ∧ ((x5 = (32 : Int32) → (oK h4 l0 8 ∧ (∃ a8 : Nat, gR h4 l0 1 = some a8 ∧ (lK h4 a8 ∧ (((nI (aN h4 a8)) ≤ l1 → (zX mX8_init 55 [.ref l0, .int l1, .long l2, .float 0, .int (l4 + 1), .float 0] [] h4 Q)) ∧ (¬ ((nI (aN h4 a8)) ≤ l1) → (vp_in l1 (aN h4 a8) ∧ (∀ h12 : zH, h12 = (pL h4 a8 l1.toNatClampNeg l2) → (zX mX8_init 55 [.ref l0, .int (l1 + 1), .long (0 : Int64), .float 0, .int (l4 + 1), .float 0] [] h12 Q))))))))) ∧ (¬ (x5 = (32 : Int32)) → (zC mX8_withLetter [.long l2, .int x5] h4 (fun r0 h15 => ∃ x16 : Int64, r0 = some (.long x16) ∧ (zX mX8_init 55 [.ref l0, .int l1, .long x16, .float 0, .int (l4 + 1), .float 0] [] h15 Q))))))))))) : zX mX8_init 55 [.ref l0, .int l1, .long l2, .float 0, .int l4, .float 0] [] h Q := by
  refine zX_seg (pc' := 59) (L' := [.ref l0, .int l1, .long l2, .float 0, .int l4, .float 0]) (st' := [.retAddr 2, .int l4]) (h2 := h) rfl rfl (fun C Cr hc kk => x_iload C rfl dX8_init_55 (f_ldcs28 C rfl dX8_init_57 (kk))) ?_
  refine zX_call (as := [.retAddr 2]) (st := [.int l4]) (fun C hM hc kk => f_callX (i := 0) C [] hM kJ0_length_8abf5 vJ0_length_8abf5 lX8_30 ⟨by decide, by decide⟩ ⟨by decide, rfl⟩ rfl hc (Nat.le_of_ble_eq_true rfl) rfl dX8_init_59 kk) (zC.mono H ?_)
  rintro r0 h1 ⟨x2, rfl, H⟩
  show zX mX8_init 62 [.ref l0, .int l1, .long l2, .float 0, .int l4, .float 0] [.int x2, .int l4] h1 Q
  refine zX_br (p1 := 118) (p2 := 65) (st' := []) (x2 ≤ l4) (fun C kt kf => x_icmp_ge C 118 dX8_init_62 (by decide) kt kf) (fun q3 => ?_) (fun q3 => ?_)
  · replace H := H.1 q3
    exact zX_ret none (fun C Cr hc => x_ret C Cr rfl hc dX8_init_118 ⟨rfl, rfl⟩) H
  · replace H := H.2 q3
    refine zX_seg (pc' := 69) (L' := [.ref l0, .int l1, .long l2, .float 0, .int l4, .float 0]) (st' := [.int l4, .retAddr 2]) (h2 := h1) rfl rfl (fun C Cr hc kk => f_ldcs28 C rfl dX8_init_65 (x_iload C rfl dX8_init_67 (kk))) ?_
    refine zX_call (as := [.retAddr 2, .int l4]) (st := []) (fun C hM hc kk => f_callX (i := 0) C [.int l4] hM kJ0_charAt_5068e vJ0_charAt_5068e lX8_36 ⟨by decide, by decide⟩ ⟨by decide, rfl⟩ rfl hc (Nat.le_of_ble_eq_true rfl) rfl dX8_init_69 kk) (zC.mono H ?_)
    rintro r0 h4 ⟨x5, rfl, H⟩
    show zX mX8_init 72 [.ref l0, .int l1, .long l2, .float 0, .int l4, .float 0] [.int x5] h4 Q
    refine zX_seg (pc' := 78) (L' := [.ref l0, .int l1, .long l2, .float 0, .int l4, .int x5]) (st' := [.int (32 : Int32), .int x5]) (h2 := h4) rfl rfl (fun C Cr hc kk => x_istore C (by decide) dX8_init_72 (x_iload C rfl dX8_init_74 (x_bipush C (32 : Int32) (by decide) dX8_init_76 (kk)))) ?_
    refine zX_br (p1 := 91) (p2 := 81) (st' := []) (x5 = (32 : Int32)) (fun C kt kf => x_icmp_eq C 91 dX8_init_78 (by decide) kt kf) (fun q6 => ?_) (fun q6 => ?_)
    · replace H := H.1 q6
      obtain ⟨g7, H⟩ := H
      obtain ⟨a8, ea8, H⟩ := H
      obtain ⟨g9, H⟩ := H
      refine zX_seg (pc' := 97) (L' := [.ref l0, .int l1, .long l2, .float 0, .int l4, .int x5]) (st' := [.int (nI (aN h4 a8)), .int l1]) (h2 := h4) rfl rfl (fun C Cr hc kk => x_iload_n C rfl dX8_init_91 (x_aload_n C (v := .ref l0) rfl rfl dX8_init_92 (f_getR1 C lX8_15 g7 rfl ea8 dX8_init_93 (f_alenL C g9 dX8_init_96 (kk))))) ?_
      refine zX_br (p1 := 112) (p2 := 100) (st' := []) ((nI (aN h4 a8)) ≤ l1) (fun C kt kf => x_icmp_ge C 112 dX8_init_97 (by decide) kt kf) (fun q10 => ?_) (fun q10 => ?_)
      · replace H := H.1 q10
        refine zX_seg (pc' := 55) (L' := [.ref l0, .int l1, .long l2, .float 0, .int (l4 + 1), .int x5]) (st' := []) (h2 := h4) rfl rfl (fun C Cr hc kk => x_iinc C (l4 + 1) rfl (congrArg (HAdd.hAdd _) (by decide)) (by decide) dX8_init_112 (x_goto C 55 dX8_init_115 (by decide) (kk))) ?_
        exact zX_wk (wkK (wkK (wkK (wkD (wkK (wkD wkN)))))) H
      · replace H := H.2 q10
        obtain ⟨g11, H⟩ := H
        refine zX_seg (pc' := 107) (L' := [.ref l0, .int l1, .long l2, .float 0, .int l4, .int x5]) (st' := []) (h2 := (pL h4 a8 l1.toNatClampNeg l2)) rfl rfl (fun C Cr hc kk => x_aload_n C (v := .ref l0) rfl rfl dX8_init_100 (f_getR1 C lX8_15 g7 rfl ea8 dX8_init_101 (x_iload_n C rfl dX8_init_104 (x_lload_n C rfl dX8_init_105 (f_last C g9 g11 dX8_init_106 (kk)))))) ?_
        obtain ⟨h12, eh12⟩ : ∃ y : zH, y = (pL h4 a8 l1.toNatClampNeg l2) := ⟨_, rfl⟩
        replace H := H h12 eh12
        rw [← eh12]
        have g13 : oK h12 l0 8 := by rw [eh12]; exact oK_pL g7
        have g14 : lK h12 a8 := by rw [eh12]; exact lK_pL g9
        refine zX_seg (pc' := 55) (L' := [.ref l0, .int (l1 + 1), .long (0 : Int64), .float 0, .int (l4 + 1), .int x5]) (st' := []) (h2 := h12) rfl rfl (fun C Cr hc kk => x_iinc C (l1 + 1) rfl (congrArg (HAdd.hAdd _) (by decide)) (by decide) dX8_init_107 (x_lconst C (0 : Int64) (by decide) dX8_init_110 (x_lstore_n C (by decide) dX8_init_111 (x_iinc C (l4 + 1) rfl (congrArg (HAdd.hAdd _) (by decide)) (by decide) dX8_init_112 (x_goto C 55 dX8_init_115 (by decide) (kk)))))) ?_
        exact zX_wk (wkK (wkK (wkK (wkD (wkK (wkD wkN)))))) H
    · replace H := H.2 q6
      refine zX_seg (pc' := 84) (L' := [.ref l0, .int l1, .long l2, .float 0, .int l4, .int x5]) (st' := [.int x5, .long l2]) (h2 := h4) rfl rfl (fun C Cr hc kk => x_lload_n C rfl dX8_init_81 (x_iload C rfl dX8_init_82 (kk))) ?_
      refine zX_call (as := [.long l2, .int x5]) (st := []) (fun C hM hc kk => x_callS C [.long l2, .int x5] hM kX8_withLetter sX8_withLetter lX8_40 ⟨by decide, by decide⟩ rfl hc (Nat.le_of_ble_eq_true rfl) rfl dX8_init_84 kk) (zC.mono H ?_)
      rintro r0 h15 ⟨x16, rfl, H⟩
      show zX mX8_init 87 [.ref l0, .int l1, .long l2, .float 0, .int l4, .int x5] [.long x16] h15 Q
      refine zX_seg (pc' := 55) (L' := [.ref l0, .int l1, .long x16, .float 0, .int (l4 + 1), .int x5]) (st' := []) (h2 := h15) rfl rfl (fun C Cr hc kk => x_lstore_n C (by decide) dX8_init_87 (x_goto C 112 dX8_init_88 (by decide) (x_iinc C (l4 + 1) rfl (congrArg (HAdd.hAdd _) (by decide)) (by decide) dX8_init_112 (x_goto C 55 dX8_init_115 (by decide) (kk))))) ?_
      exact zX_wk (wkK (wkK (wkK (wkD (wkK (wkD wkN)))))) H
theorem nX8_init (t : Nat) (h : zH) (Q : Option Value → zH → Prop) (H : zX mX8_init 0 [.ref t, .float 0, .float 0, .float 0, .float 0, .float 0] [] h Q) : zC mX8_init [.ref t] h Q := zC_of (by decide +kernel) (by simp) (Nat.le_of_ble_eq_true rfl) H
set_option maxHeartbeats 20000000 in
theorem bX8_add_0 (t : Nat) (p0 : Int32) (h : zH) (Q : Option Value → zH → Prop) (H : zX mX8_add 3 [.ref t, .int p0, .int (24 : Int32)] [] h Q) : zX mX8_add 0 [.ref t, .int p0, .float 0] [] h Q := by
  refine zX_seg (pc' := 3) (L' := [.ref t, .int p0, .int (24 : Int32)]) (st' := []) (h2 := h) rfl rfl (fun C Cr hc kk => x_bipush C (24 : Int32) (by decide) dX8_add_0 (x_istore_n C (by decide) dX8_add_2 (kk))) ?_
  exact zX_wk (wkK (wkK (wkK wkN))) H
set_option maxHeartbeats 20000000 in
theorem bX8_add_3 (l0 : Nat) (l1 : Int32) (l2 : Int32) (h : zH) (Q : Option Value → zH → Prop) (H : (l2 < 0 → (Q none h)) ∧ (¬ (l2 < 0) → (oK h l0 8 ∧ (∃ a3 : Nat, gR h l0 0 = some a3 ∧ (zC mX11_put [.ref a3, .int (gI h l0 5), .int (((l1.toUInt32 >>> (l2.toUInt32 &&& Int32.toUInt32 31)).toInt32) &&& (255 : Int32))] h (fun r0 h4 => r0 = none ∧ (oK h4 l0 8 ∧ (∀ h6 : zH, h6 = (pF h4 l0 5 (.int ((gI h4 l0 5) + (1 : Int32)))) → (zX mX8_add 3 [.ref l0, .int l1, .int (l2 + (-8))] [] h6 Q))))))))) : zX mX8_add 3 [.ref l0, .int l1, .int l2] [] h Q := by
  refine zX_seg (pc' := 4) (L' := [.ref l0, .int l1, .int l2]) (st' := [.int l2]) (h2 := h) rfl rfl (fun C Cr hc kk => x_iload_n C rfl dX8_add_3 (kk)) ?_
  refine zX_br (p1 := 41) (p2 := 7) (st' := []) (l2 < 0) (fun C kt kf => x_if_lt C 41 dX8_add_4 (by decide) kt kf) (fun q1 => ?_) (fun q1 => ?_)
  · replace H := H.1 q1
    exact zX_ret none (fun C Cr hc => x_ret C Cr rfl hc dX8_add_41 ⟨rfl, rfl⟩) H
  · replace H := H.2 q1
    obtain ⟨g2, H⟩ := H
    obtain ⟨a3, ea3, H⟩ := H
    refine zX_seg (pc' := 22) (L' := [.ref l0, .int l1, .int l2]) (st' := [.int (((l1.toUInt32 >>> (l2.toUInt32 &&& Int32.toUInt32 31)).toInt32) &&& (255 : Int32)), .int (gI h l0 5), .ref a3]) (h2 := h) rfl rfl (fun C Cr hc kk => x_aload_n C (v := .ref l0) rfl rfl dX8_add_7 (f_getR1 C lX8_9 g2 rfl ea3 dX8_add_8 (x_aload_n C (v := .ref l0) rfl rfl dX8_add_11 (f_getI C lX8_44 g2 rfl dX8_add_12 (x_iload_n C rfl dX8_add_15 (x_iload_n C rfl dX8_add_16 (x_iushr C dX8_add_17 (x_sipush C (255 : Int32) (by decide) dX8_add_18 (x_iand C dX8_add_21 (kk)))))))))) ?_
    refine zX_call (as := [.ref a3, .int (gI h l0 5), .int (((l1.toUInt32 >>> (l2.toUInt32 &&& Int32.toUInt32 31)).toInt32) &&& (255 : Int32))]) (st := []) (fun C hM hc kk => x_callSN C [.ref a3, .int (gI h l0 5), .int (((l1.toUInt32 >>> (l2.toUInt32 &&& Int32.toUInt32 31)).toInt32) &&& (255 : Int32))] hM kX11_put sX11_put lX8_47 ⟨by decide, by decide⟩ rfl hc (Nat.le_of_ble_eq_true rfl) rfl dX8_add_22 kk) (zC.mono H ?_)
    rintro r0 h4 ⟨rfl, H⟩
    show zX mX8_add 25 [.ref l0, .int l1, .int l2] [] h4 Q
    obtain ⟨g5, H⟩ := H
    refine zX_seg (pc' := 35) (L' := [.ref l0, .int l1, .int l2]) (st' := []) (h2 := (pF h4 l0 5 (.int ((gI h4 l0 5) + (1 : Int32))))) rfl rfl (fun C Cr hc kk => x_aload_n C (v := .ref l0) rfl rfl dX8_add_25 (x_dup C rfl dX8_add_26 (f_getI C lX8_44 g5 rfl dX8_add_27 (x_iconst C (1 : Int32) (by decide) dX8_add_30 (x_iadd C dX8_add_31 (f_putI C lX8_44 tX8 nX8_5 g5 rfl rfl dX8_add_32 (kk))))))) ?_
    obtain ⟨h6, eh6⟩ : ∃ y : zH, y = (pF h4 l0 5 (.int ((gI h4 l0 5) + (1 : Int32)))) := ⟨_, rfl⟩
    replace H := H h6 eh6
    rw [← eh6]
    have g7 : oK h6 l0 8 := by rw [eh6]; exact oK_pF' g5 rfl rfl g5
    refine zX_seg (pc' := 3) (L' := [.ref l0, .int l1, .int (l2 + (-8))]) (st' := []) (h2 := h6) rfl rfl (fun C Cr hc kk => x_iinc C (l2 + (-8)) rfl (congrArg (HAdd.hAdd _) (by decide)) (by decide) dX8_add_35 (x_goto C 3 dX8_add_38 (by decide) (kk))) ?_
    exact zX_wk (wkK (wkK (wkK wkN))) H
theorem nX8_add (t : Nat) (p0 : Int32) (h : zH) (Q : Option Value → zH → Prop) (H : zX mX8_add 0 [.ref t, .int p0, .float 0] [] h Q) : zC mX8_add [.ref t, .int p0] h Q := zC_of (by decide +kernel) (by simp) (Nat.le_of_ble_eq_true rfl) H
set_option maxHeartbeats 20000000 in
theorem bX8_rewind_0 (t : Nat) (h : zH) (Q : Option Value → zH → Prop) (H : oK h t 8 ∧ (zC mX8_split [.ref t] h (fun r0 h2 => r0 = none ∧ (oK h2 t 8 ∧ (∀ h4 : zH, h4 = (pF h2 t 7 (.int (0 : Int32))) → (zC mX8_advance [.ref t] h4 (fun r0 h6 => r0 = none ∧ (Q none h6)))))))) : zX mX8_rewind 0 [.ref t] [] h Q := by
  refine zX_seg (pc' := 1) (L' := [.ref t]) (st' := [.ref t]) (h2 := h) rfl rfl (fun C Cr hc kk => x_aload_n C (v := .ref t) rfl rfl dX8_rewind_0 (kk)) ?_
  obtain ⟨g1, H⟩ := H
  refine zX_call (as := [.ref t]) (st := []) (fun C hM hc kk => f_callV C [] hM kX8_split vX8_split lX8_51 ⟨by decide, by decide⟩ (rfl : vwCl[8]? = some (RX8, TX8, 11)) g1 rfl hc (Nat.le_of_ble_eq_true rfl) rfl dX8_rewind_1 kk) (zC.mono H ?_)
  rintro r0 h2 ⟨rfl, H⟩
  show zX mX8_rewind 4 [.ref t] [] h2 Q
  obtain ⟨g3, H⟩ := H
  refine zX_seg (pc' := 9) (L' := [.ref t]) (st' := []) (h2 := (pF h2 t 7 (.int (0 : Int32)))) rfl rfl (fun C Cr hc kk => x_aload_n C (v := .ref t) rfl rfl dX8_rewind_4 (x_iconst C (0 : Int32) (by decide) dX8_rewind_5 (f_putI C lX8_54 tX8 nX8_7 g3 rfl rfl dX8_rewind_6 (kk)))) ?_
  obtain ⟨h4, eh4⟩ : ∃ y : zH, y = (pF h2 t 7 (.int (0 : Int32))) := ⟨_, rfl⟩
  replace H := H h4 eh4
  rw [← eh4]
  have g5 : oK h4 t 8 := by rw [eh4]; exact oK_pF' g3 rfl rfl g3
  refine zX_seg (pc' := 10) (L' := [.ref t]) (st' := [.ref t]) (h2 := h4) rfl rfl (fun C Cr hc kk => x_aload_n C (v := .ref t) rfl rfl dX8_rewind_9 (kk)) ?_
  refine zX_call (as := [.ref t]) (st := []) (fun C hM hc kk => f_callV C [] hM kX8_advance vX8_advance lX8_57 ⟨by decide, by decide⟩ (rfl : vwCl[8]? = some (RX8, TX8, 11)) g5 rfl hc (Nat.le_of_ble_eq_true rfl) rfl dX8_rewind_10 kk) (zC.mono H ?_)
  rintro r0 h6 ⟨rfl, H⟩
  show zX mX8_rewind 13 [.ref t] [] h6 Q
  exact zX_ret none (fun C Cr hc => x_ret C Cr rfl hc dX8_rewind_13 ⟨rfl, rfl⟩) H
theorem nX8_rewind (t : Nat) (h : zH) (Q : Option Value → zH → Prop) (H : zX mX8_rewind 0 [.ref t] [] h Q) : zC mX8_rewind [.ref t] h Q := zC_of (by decide +kernel) (by simp) (Nat.le_of_ble_eq_true rfl) H
set_option maxHeartbeats 20000000 in
theorem bX8_advance_0 (t : Nat) (h : zH) (Q : Option Value → zH → Prop) (H : oK h t 8 ∧ (((gI h t 7) < 0 → (Q none h)) ∧ (¬ ((gI h t 7) < 0) → (((gI h t 6) ≤ (gI h t 7) → (Q none h)) ∧ (¬ ((gI h t 6) ≤ (gI h t 7)) → (∃ a4 : Nat, gR h t 2 = some a4 ∧ (iK h a4 0 ∧ (((nI (aN h a4)) ≤ (gI h t 7) → (Q none h)) ∧ (¬ ((nI (aN h a4)) ≤ (gI h t 7)) → (vp_in (gI h t 7) (aN h a4) ∧ (∀ h8 : zH, h8 = (pF h t 8 (.int (aI h a4 (gI h t 7).toNatClampNeg))) → (∃ a11 : Nat, gR h8 t 3 = some a11 ∧ (iK h8 a11 0 ∧ (vp_in (gI h8 t 7) (aN h8 a11) ∧ (∀ h14 : zH, h14 = (pF h8 t 9 (.int (aI h8 a11 (gI h8 t 7).toNatClampNeg))) → (∃ a18 : Nat, gR h14 t 4 = some a18 ∧ (lK h14 a18 ∧ (vp_in (gI h14 t 7) (aN h14 a18) ∧ (∀ h21 : zH, h21 = (pF h14 t 10 (.long (aL h14 a18 (gI h14 t 7).toNatClampNeg))) → (∀ h26 : zH, h26 = (pF h21 t 7 (.int ((gI h21 t 7) + (1 : Int32)))) → (Q none h26))))))))))))))))))))) : zX mX8_advance 0 [.ref t] [] h Q := by
  obtain ⟨g1, H⟩ := H
  refine zX_seg (pc' := 4) (L' := [.ref t]) (st' := [.int (gI h t 7)]) (h2 := h) rfl rfl (fun C Cr hc kk => x_aload_n C (v := .ref t) rfl rfl dX8_advance_0 (f_getI C lX8_54 g1 rfl dX8_advance_1 (kk))) ?_
  refine zX_br (p1 := 79) (p2 := 7) (st' := []) ((gI h t 7) < 0) (fun C kt kf => x_if_lt C 79 dX8_advance_4 (by decide) kt kf) (fun q2 => ?_) (fun q2 => ?_)
  · replace H := H.1 q2
    exact zX_ret none (fun C Cr hc => x_ret C Cr rfl hc dX8_advance_79 ⟨rfl, rfl⟩) H
  · replace H := H.2 q2
    refine zX_seg (pc' := 15) (L' := [.ref t]) (st' := [.int (gI h t 6), .int (gI h t 7)]) (h2 := h) rfl rfl (fun C Cr hc kk => x_aload_n C (v := .ref t) rfl rfl dX8_advance_7 (f_getI C lX8_54 g1 rfl dX8_advance_8 (x_aload_n C (v := .ref t) rfl rfl dX8_advance_11 (f_getI C lX8_60 g1 rfl dX8_advance_12 (kk))))) ?_
    refine zX_br (p1 := 79) (p2 := 18) (st' := []) ((gI h t 6) ≤ (gI h t 7)) (fun C kt kf => x_icmp_ge C 79 dX8_advance_15 (by decide) kt kf) (fun q3 => ?_) (fun q3 => ?_)
    · replace H := H.1 q3
      exact zX_ret none (fun C Cr hc => x_ret C Cr rfl hc dX8_advance_79 ⟨rfl, rfl⟩) H
    · replace H := H.2 q3
      obtain ⟨a4, ea4, H⟩ := H
      obtain ⟨g5, H⟩ := H
      refine zX_seg (pc' := 27) (L' := [.ref t]) (st' := [.int (nI (aN h a4)), .int (gI h t 7)]) (h2 := h) rfl rfl (fun C Cr hc kk => x_aload_n C (v := .ref t) rfl rfl dX8_advance_18 (f_getI C lX8_54 g1 rfl dX8_advance_19 (x_aload_n C (v := .ref t) rfl rfl dX8_advance_22 (f_getR1 C lX8_19 g1 rfl ea4 dX8_advance_23 (f_alenI C (by decide) g5 dX8_advance_26 (kk)))))) ?_
      refine zX_br (p1 := 79) (p2 := 30) (st' := []) ((nI (aN h a4)) ≤ (gI h t 7)) (fun C kt kf => x_icmp_ge C 79 dX8_advance_27 (by decide) kt kf) (fun q6 => ?_) (fun q6 => ?_)
      · replace H := H.1 q6
        exact zX_ret none (fun C Cr hc => x_ret C Cr rfl hc dX8_advance_79 ⟨rfl, rfl⟩) H
      · replace H := H.2 q6
        obtain ⟨g7, H⟩ := H
        refine zX_seg (pc' := 43) (L' := [.ref t]) (st' := []) (h2 := (pF h t 8 (.int (aI h a4 (gI h t 7).toNatClampNeg)))) rfl rfl (fun C Cr hc kk => x_aload_n C (v := .ref t) rfl rfl dX8_advance_30 (x_aload_n C (v := .ref t) rfl rfl dX8_advance_31 (f_getR1 C lX8_19 g1 rfl ea4 dX8_advance_32 (x_aload_n C (v := .ref t) rfl rfl dX8_advance_35 (f_getI C lX8_54 g1 rfl dX8_advance_36 (f_iald C g5 g7 dX8_advance_39 (f_putI C lX8_63 tX8 nX8_8 g1 rfl rfl dX8_advance_40 (kk)))))))) ?_
        obtain ⟨h8, eh8⟩ : ∃ y : zH, y = (pF h t 8 (.int (aI h a4 (gI h t 7).toNatClampNeg))) := ⟨_, rfl⟩
        replace H := H h8 eh8
        rw [← eh8]
        have g9 : oK h8 t 8 := by rw [eh8]; exact oK_pF' g1 rfl rfl g1
        have g10 : iK h8 a4 0 := by rw [eh8]; exact iK_pF g5
        obtain ⟨a11, ea11, H⟩ := H
        obtain ⟨g13, H⟩ := H
        obtain ⟨g12, H⟩ := H
        refine zX_seg (pc' := 56) (L' := [.ref t]) (st' := []) (h2 := (pF h8 t 9 (.int (aI h8 a11 (gI h8 t 7).toNatClampNeg)))) rfl rfl (fun C Cr hc kk => x_aload_n C (v := .ref t) rfl rfl dX8_advance_43 (x_aload_n C (v := .ref t) rfl rfl dX8_advance_44 (f_getR1 C lX8_22 g9 rfl ea11 dX8_advance_45 (x_aload_n C (v := .ref t) rfl rfl dX8_advance_48 (f_getI C lX8_54 g9 rfl dX8_advance_49 (f_iald C g13 g12 dX8_advance_52 (f_putI C lX8_66 tX8 nX8_9 g9 rfl rfl dX8_advance_53 (kk)))))))) ?_
        obtain ⟨h14, eh14⟩ : ∃ y : zH, y = (pF h8 t 9 (.int (aI h8 a11 (gI h8 t 7).toNatClampNeg))) := ⟨_, rfl⟩
        replace H := H h14 eh14
        rw [← eh14]
        have g15 : oK h14 t 8 := by rw [eh14]; exact oK_pF' g9 rfl rfl g9
        have g16 : iK h14 a4 0 := by rw [eh14]; exact iK_pF g10
        have g17 : iK h14 a11 0 := by rw [eh14]; exact iK_pF g13
        obtain ⟨a18, ea18, H⟩ := H
        obtain ⟨g20, H⟩ := H
        obtain ⟨g19, H⟩ := H
        refine zX_seg (pc' := 69) (L' := [.ref t]) (st' := []) (h2 := (pF h14 t 10 (.long (aL h14 a18 (gI h14 t 7).toNatClampNeg)))) rfl rfl (fun C Cr hc kk => x_aload_n C (v := .ref t) rfl rfl dX8_advance_56 (x_aload_n C (v := .ref t) rfl rfl dX8_advance_57 (f_getR1 C lX8_25 g15 rfl ea18 dX8_advance_58 (x_aload_n C (v := .ref t) rfl rfl dX8_advance_61 (f_getI C lX8_54 g15 rfl dX8_advance_62 (f_lald C g20 g19 dX8_advance_65 (f_putL C lX8_69 tX8 nX8_10 g15 rfl rfl dX8_advance_66 (kk)))))))) ?_
        obtain ⟨h21, eh21⟩ : ∃ y : zH, y = (pF h14 t 10 (.long (aL h14 a18 (gI h14 t 7).toNatClampNeg))) := ⟨_, rfl⟩
        replace H := H h21 eh21
        rw [← eh21]
        have g22 : oK h21 t 8 := by rw [eh21]; exact oK_pF' g15 rfl rfl g15
        have g23 : iK h21 a4 0 := by rw [eh21]; exact iK_pF g16
        have g24 : iK h21 a11 0 := by rw [eh21]; exact iK_pF g17
        have g25 : lK h21 a18 := by rw [eh21]; exact lK_pF g20
        refine zX_seg (pc' := 79) (L' := [.ref t]) (st' := []) (h2 := (pF h21 t 7 (.int ((gI h21 t 7) + (1 : Int32))))) rfl rfl (fun C Cr hc kk => x_aload_n C (v := .ref t) rfl rfl dX8_advance_69 (x_dup C rfl dX8_advance_70 (f_getI C lX8_54 g22 rfl dX8_advance_71 (x_iconst C (1 : Int32) (by decide) dX8_advance_74 (x_iadd C dX8_advance_75 (f_putI C lX8_54 tX8 nX8_7 g22 rfl rfl dX8_advance_76 (kk))))))) ?_
        obtain ⟨h26, eh26⟩ : ∃ y : zH, y = (pF h21 t 7 (.int ((gI h21 t 7) + (1 : Int32)))) := ⟨_, rfl⟩
        replace H := H h26 eh26
        rw [← eh26]
        have g27 : oK h26 t 8 := by rw [eh26]; exact oK_pF' g22 rfl rfl g22
        have g28 : iK h26 a4 0 := by rw [eh26]; exact iK_pF g23
        have g29 : iK h26 a11 0 := by rw [eh26]; exact iK_pF g24
        have g30 : lK h26 a18 := by rw [eh26]; exact lK_pF g25
        exact zX_ret none (fun C Cr hc => x_ret C Cr rfl hc dX8_advance_79 ⟨rfl, rfl⟩) H
theorem nX8_advance (t : Nat) (h : zH) (Q : Option Value → zH → Prop) (H : zX mX8_advance 0 [.ref t] [] h Q) : zC mX8_advance [.ref t] h Q := zC_of (by decide +kernel) (by simp) (Nat.le_of_ble_eq_true rfl) H
set_option maxHeartbeats 20000000 in
theorem bX8_split_0 (t : Nat) (h : zH) (Q : Option Value → zH → Prop) (H : oK h t 8 ∧ (∃ a2 : Nat, gR h t 0 = some a2 ∧ (iK h a2 0 ∧ (∀ h4 : zH, h4 = (pF h t 6 (.int (0 : Int32))) → (∀ h7 : zH, h7 = (pF h4 t 8 (.int (22 : Int32))) → (zX mX8_split 28 [.ref t, .int (if (nI (aN h a2)) < (gI h t 5) then (nI (aN h a2)) else (gI h t 5)), .int (0 : Int32), .int (0 : Int32), .float 0, .float 0, .float 0] [] h7 Q)))))) : zX mX8_split 0 [.ref t, .float 0, .float 0, .float 0, .float 0, .float 0, .float 0] [] h Q := by
  obtain ⟨g1, H⟩ := H
  obtain ⟨a2, ea2, H⟩ := H
  obtain ⟨g3, H⟩ := H
  refine zX_seg (pc' := 20) (L' := [.ref t, .int (if (nI (aN h a2)) < (gI h t 5) then (nI (aN h a2)) else (gI h t 5)), .int (0 : Int32), .float 0, .float 0, .float 0, .float 0]) (st' := []) (h2 := (pF h t 6 (.int (0 : Int32)))) rfl rfl (fun C Cr hc kk => x_aload_n C (v := .ref t) rfl rfl dX8_split_0 (f_getI C lX8_44 g1 rfl dX8_split_1 (x_aload_n C (v := .ref t) rfl rfl dX8_split_4 (f_getR1 C lX8_9 g1 rfl ea2 dX8_split_5 (f_alenI C (by decide) g3 dX8_split_8 (f_mmin C lX8_73 mm_min_s mm_i mm_min_c ⟨by decide, by decide⟩ hc (Nat.le_of_ble_eq_true rfl) dX8_split_9 (x_istore_n C (by decide) dX8_split_12 (x_iconst C (0 : Int32) (by decide) dX8_split_13 (x_istore_n C (by decide) dX8_split_14 (x_aload_n C (v := .ref t) rfl rfl dX8_split_15 (x_iconst C (0 : Int32) (by decide) dX8_split_16 (f_putI C lX8_60 tX8 nX8_6 g1 rfl rfl dX8_split_17 (kk))))))))))))) ?_
  obtain ⟨h4, eh4⟩ : ∃ y : zH, y = (pF h t 6 (.int (0 : Int32))) := ⟨_, rfl⟩
  replace H := H h4 eh4
  rw [← eh4]
  have g5 : oK h4 t 8 := by rw [eh4]; exact oK_pF' g1 rfl rfl g1
  have g6 : iK h4 a2 0 := by rw [eh4]; exact iK_pF g3
  refine zX_seg (pc' := 26) (L' := [.ref t, .int (if (nI (aN h a2)) < (gI h t 5) then (nI (aN h a2)) else (gI h t 5)), .int (0 : Int32), .float 0, .float 0, .float 0, .float 0]) (st' := []) (h2 := (pF h4 t 8 (.int (22 : Int32)))) rfl rfl (fun C Cr hc kk => x_aload_n C (v := .ref t) rfl rfl dX8_split_20 (x_bipush C (22 : Int32) (by decide) dX8_split_21 (f_putI C lX8_63 tX8 nX8_8 g5 rfl rfl dX8_split_23 (kk)))) ?_
  obtain ⟨h7, eh7⟩ : ∃ y : zH, y = (pF h4 t 8 (.int (22 : Int32))) := ⟨_, rfl⟩
  replace H := H h7 eh7
  rw [← eh7]
  have g8 : oK h7 t 8 := by rw [eh7]; exact oK_pF' g5 rfl rfl g5
  have g9 : iK h7 a2 0 := by rw [eh7]; exact iK_pF g6
  refine zX_seg (pc' := 28) (L' := [.ref t, .int (if (nI (aN h a2)) < (gI h t 5) then (nI (aN h a2)) else (gI h t 5)), .int (0 : Int32), .int (0 : Int32), .float 0, .float 0, .float 0]) (st' := []) (h2 := h7) rfl rfl (fun C Cr hc kk => x_iconst C (0 : Int32) (by decide) dX8_split_26 (x_istore_n C (by decide) dX8_split_27 (kk))) ?_
  exact zX_wk (wkK (wkK (wkK (wkK (wkD (wkD (wkD wkN))))))) H
set_option maxHeartbeats 20000000 in
theorem bX8_split_28 (l0 : Nat) (l1 : Int32) (l2 : Int32) (l3 : Int32) (h : zH) (Q : Option Value → zH → Prop) (H : (l1 < l3 → (Q none h)) ∧ (¬ (l1 < l3) → (oK h l0 8 ∧ (((gI h l0 8) = (30 : Int32) → (Q none h)) ∧ (¬ ((gI h l0 8) = (30 : Int32)) → (((gI h l0 8) = (31 : Int32) → (Q none h)) ∧ (¬ ((gI h l0 8) = (31 : Int32)) → (zX mX8_split 51 [.ref l0, .int l1, .int l2, .int l3, .float 0, .float 0, .float 0] [] h Q)))))))) : zX mX8_split 28 [.ref l0, .int l1, .int l2, .int l3, .float 0, .float 0, .float 0] [] h Q := by
  refine zX_seg (pc' := 30) (L' := [.ref l0, .int l1, .int l2, .int l3, .float 0, .float 0, .float 0]) (st' := [.int l1, .int l3]) (h2 := h) rfl rfl (fun C Cr hc kk => x_iload_n C rfl dX8_split_28 (x_iload_n C rfl dX8_split_29 (kk))) ?_
  refine zX_br (p1 := 188) (p2 := 33) (st' := []) (l1 < l3) (fun C kt kf => x_icmp_gt C 188 dX8_split_30 (by decide) kt kf) (fun q1 => ?_) (fun q1 => ?_)
  · replace H := H.1 q1
    exact zX_ret none (fun C Cr hc => x_ret C Cr rfl hc dX8_split_188 ⟨rfl, rfl⟩) H
  · replace H := H.2 q1
    obtain ⟨g2, H⟩ := H
    refine zX_seg (pc' := 39) (L' := [.ref l0, .int l1, .int l2, .int l3, .float 0, .float 0, .float 0]) (st' := [.int (30 : Int32), .int (gI h l0 8)]) (h2 := h) rfl rfl (fun C Cr hc kk => x_aload_n C (v := .ref l0) rfl rfl dX8_split_33 (f_getI C lX8_63 g2 rfl dX8_split_34 (x_bipush C (30 : Int32) (by decide) dX8_split_37 (kk)))) ?_
    refine zX_br (p1 := 188) (p2 := 42) (st' := []) ((gI h l0 8) = (30 : Int32)) (fun C kt kf => x_icmp_eq C 188 dX8_split_39 (by decide) kt kf) (fun q3 => ?_) (fun q3 => ?_)
    · replace H := H.1 q3
      exact zX_ret none (fun C Cr hc => x_ret C Cr rfl hc dX8_split_188 ⟨rfl, rfl⟩) H
    · replace H := H.2 q3
      refine zX_seg (pc' := 48) (L' := [.ref l0, .int l1, .int l2, .int l3, .float 0, .float 0, .float 0]) (st' := [.int (31 : Int32), .int (gI h l0 8)]) (h2 := h) rfl rfl (fun C Cr hc kk => x_aload_n C (v := .ref l0) rfl rfl dX8_split_42 (f_getI C lX8_63 g2 rfl dX8_split_43 (x_bipush C (31 : Int32) (by decide) dX8_split_46 (kk)))) ?_
      refine zX_br (p1 := 188) (p2 := 51) (st' := []) ((gI h l0 8) = (31 : Int32)) (fun C kt kf => x_icmp_eq C 188 dX8_split_48 (by decide) kt kf) (fun q4 => ?_) (fun q4 => ?_)
      · replace H := H.1 q4
        exact zX_ret none (fun C Cr hc => x_ret C Cr rfl hc dX8_split_188 ⟨rfl, rfl⟩) H
      · replace H := H.2 q4
        exact zX_wk (wkK (wkK (wkK (wkK (wkD (wkD (wkD wkN))))))) H
set_option maxHeartbeats 20000000 in
theorem bX8_split_51 (l0 : Nat) (l1 : Int32) (l2 : Int32) (l3 : Int32) (h : zH) (Q : Option Value → zH → Prop) (H : (l1 ≤ l2 → (zX mX8_split 76 [.ref l0, .int l1, .int l2, .int l3, .float 0, .float 0, .float 0] [] h Q)) ∧ (¬ (l1 ≤ l2) → (oK h l0 8 ∧ (∃ a3 : Nat, gR h l0 0 = some a3 ∧ (zC mX11_at [.ref a3, .int l2] h (fun r0 h4 => ∃ x5 : Int32, r0 = some (.int x5) ∧ (zC mX11_isBlank [.int x5] h4 (fun r0 h6 => ∃ x7 : Int32, r0 = some (.int x7) ∧ ((x7 = 0 → (zX mX8_split 76 [.ref l0, .int l1, .int l2, .int l3, .float 0, .float 0, .float 0] [] h6 Q)) ∧ (¬ (x7 = 0) → (zX mX8_split 51 [.ref l0, .int l1, .int (l2 + 1), .int l3, .float 0, .float 0, .float 0] [] h6 Q))))))))))) : zX mX8_split 51 [.ref l0, .int l1, .int l2, .int l3, .float 0, .float 0, .float 0] [] h Q := by
  refine zX_seg (pc' := 53) (L' := [.ref l0, .int l1, .int l2, .int l3, .float 0, .float 0, .float 0]) (st' := [.int l1, .int l2]) (h2 := h) rfl rfl (fun C Cr hc kk => x_iload_n C rfl dX8_split_51 (x_iload_n C rfl dX8_split_52 (kk))) ?_
  refine zX_br (p1 := 76) (p2 := 56) (st' := []) (l1 ≤ l2) (fun C kt kf => x_icmp_ge C 76 dX8_split_53 (by decide) kt kf) (fun q1 => ?_) (fun q1 => ?_)
  · replace H := H.1 q1
    exact zX_wk (wkK (wkK (wkK (wkK (wkD (wkD (wkD wkN))))))) H
  · replace H := H.2 q1
    obtain ⟨g2, H⟩ := H
    obtain ⟨a3, ea3, H⟩ := H
    refine zX_seg (pc' := 61) (L' := [.ref l0, .int l1, .int l2, .int l3, .float 0, .float 0, .float 0]) (st' := [.int l2, .ref a3]) (h2 := h) rfl rfl (fun C Cr hc kk => x_aload_n C (v := .ref l0) rfl rfl dX8_split_56 (f_getR1 C lX8_9 g2 rfl ea3 dX8_split_57 (x_iload_n C rfl dX8_split_60 (kk)))) ?_
    refine zX_call (as := [.ref a3, .int l2]) (st := []) (fun C hM hc kk => x_callSN C [.ref a3, .int l2] hM kX11_at sX11_at lX8_79 ⟨by decide, by decide⟩ rfl hc (Nat.le_of_ble_eq_true rfl) rfl dX8_split_61 kk) (zC.mono H ?_)
    rintro r0 h4 ⟨x5, rfl, H⟩
    show zX mX8_split 64 [.ref l0, .int l1, .int l2, .int l3, .float 0, .float 0, .float 0] [.int x5] h4 Q
    refine zX_call (as := [.int x5]) (st := []) (fun C hM hc kk => x_callSN C [.int x5] hM kX11_isBlank sX11_isBlank lX8_83 ⟨by decide, by decide⟩ rfl hc (Nat.le_of_ble_eq_true rfl) rfl dX8_split_64 kk) (zC.mono H ?_)
    rintro r0 h6 ⟨x7, rfl, H⟩
    show zX mX8_split 67 [.ref l0, .int l1, .int l2, .int l3, .float 0, .float 0, .float 0] [.int x7] h6 Q
    refine zX_br (p1 := 76) (p2 := 70) (st' := []) (x7 = 0) (fun C kt kf => x_if_eq C 76 dX8_split_67 (by decide) kt kf) (fun q8 => ?_) (fun q8 => ?_)
    · replace H := H.1 q8
      exact zX_wk (wkK (wkK (wkK (wkK (wkD (wkD (wkD wkN))))))) H
    · replace H := H.2 q8
      refine zX_seg (pc' := 51) (L' := [.ref l0, .int l1, .int (l2 + 1), .int l3, .float 0, .float 0, .float 0]) (st' := []) (h2 := h6) rfl rfl (fun C Cr hc kk => x_iinc C (l2 + 1) rfl (congrArg (HAdd.hAdd _) (by decide)) (by decide) dX8_split_70 (x_goto C 51 dX8_split_73 (by decide) (kk))) ?_
      exact zX_wk (wkK (wkK (wkK (wkK (wkD (wkD (wkD wkN))))))) H
set_option maxHeartbeats 20000000 in
theorem bX8_split_76 (l0 : Nat) (l1 : Int32) (l2 : Int32) (l3 : Int32) (h : zH) (Q : Option Value → zH → Prop) (H : oK h l0 8 ∧ (∃ a2 : Nat, gR h l0 0 = some a2 ∧ (zC mX11_at [.ref a2, .int l2] h (fun r0 h3 => ∃ x4 : Int32, r0 = some (.int x4) ∧ (oK h3 l0 8 ∧ (∀ h6 : zH, h6 = (pF h3 l0 10 (.long (0 : Int64))) → ((l2 < l1 → (zC mX11_isLetter [.int x4] h6 (fun r0 h9 => ∃ x10 : Int32, r0 = some (.int x10) ∧ ((x10 = 0 → (zC mX11_isDigit [.int x4] h9 (fun r0 h12 => ∃ x13 : Int32, r0 = some (.int x13) ∧ ((x13 = 0 → (zC mJ0_indexOf_0f7a4 [.retAddr 3, .int ((x4.toUInt32 % 65536).toInt32)] h12 (fun r0 h15 => ∃ x16 : Int32, r0 = some (.int x16) ∧ ((0 ≤ x16 → (oK h15 l0 8 ∧ (∀ h19 : zH, h19 = (pF h15 l0 8 (.int ((22 : Int32) + x16))) → (zX mX8_split 176 [.ref l0, .int l1, .int (l2 + 1), .int l3, .int l2, .float 0, .float 0] [] h19 Q)))) ∧ (¬ (0 ≤ x16) → (oK h15 l0 8 ∧ (∀ h22 : zH, h22 = (pF h15 l0 8 (.int (31 : Int32))) → (zX mX8_split 176 [.ref l0, .int l1, .int (l2 + 1), .int l3, .int l2, .float 0, .float 0] [] h22 Q)))))))) ∧ (¬ (x13 = 0) → (oK h12 l0 8 ∧ (zC mX8_endOfNumber [.ref l0, .int l2, .int l1] h12 (fun r0 h25 => ∃ x26 : Int32, r0 = some (.int x26) ∧ (zX mX8_split 176 [.ref l0, .int l1, .int x26, .int l3, .int l2, .float 0, .float 0] [] h25 Q))))))))) ∧ (¬ (x10 = 0) → (oK h9 l0 8 ∧ (zC mX8_endOfWord [.ref l0, .int l2, .int l1] h9 (fun r0 h28 => ∃ x29 : Int32, r0 = some (.int x29) ∧ (zX mX8_split 176 [.ref l0, .int l1, .int x29, .int l3, .int l2, .float 0, .float 0] [] h28 Q))))))))) ∧ (¬ (l2 < l1) → (∀ h30 : zH, h30 = (pF h6 l0 8 (.int (30 : Int32))) → (zX mX8_split 176 [.ref l0, .int l1, .int l2, .int l3, .int l2, .float 0, .float 0] [] h30 Q)))))))))) : zX mX8_split 76 [.ref l0, .int l1, .int l2, .int l3, .float 0, .float 0, .float 0] [] h Q := by
  obtain ⟨g1, H⟩ := H
  obtain ⟨a2, ea2, H⟩ := H
  refine zX_seg (pc' := 84) (L' := [.ref l0, .int l1, .int l2, .int l3, .int l2, .float 0, .float 0]) (st' := [.int l2, .ref a2]) (h2 := h) rfl rfl (fun C Cr hc kk => x_iload_n C rfl dX8_split_76 (x_istore C (by decide) dX8_split_77 (x_aload_n C (v := .ref l0) rfl rfl dX8_split_79 (f_getR1 C lX8_9 g1 rfl ea2 dX8_split_80 (x_iload_n C rfl dX8_split_83 (kk)))))) ?_
  refine zX_call (as := [.ref a2, .int l2]) (st := []) (fun C hM hc kk => x_callSN C [.ref a2, .int l2] hM kX11_at sX11_at lX8_79 ⟨by decide, by decide⟩ rfl hc (Nat.le_of_ble_eq_true rfl) rfl dX8_split_84 kk) (zC.mono H ?_)
  rintro r0 h3 ⟨x4, rfl, H⟩
  show zX mX8_split 87 [.ref l0, .int l1, .int l2, .int l3, .int l2, .float 0, .float 0] [.int x4] h3 Q
  obtain ⟨g5, H⟩ := H
  refine zX_seg (pc' := 94) (L' := [.ref l0, .int l1, .int l2, .int l3, .int l2, .int x4, .float 0]) (st' := []) (h2 := (pF h3 l0 10 (.long (0 : Int64)))) rfl rfl (fun C Cr hc kk => x_istore C (by decide) dX8_split_87 (x_aload_n C (v := .ref l0) rfl rfl dX8_split_89 (x_lconst C (0 : Int64) (by decide) dX8_split_90 (f_putL C lX8_69 tX8 nX8_10 g5 rfl rfl dX8_split_91 (kk))))) ?_
  obtain ⟨h6, eh6⟩ : ∃ y : zH, y = (pF h3 l0 10 (.long (0 : Int64))) := ⟨_, rfl⟩
  replace H := H h6 eh6
  rw [← eh6]
  have g7 : oK h6 l0 8 := by rw [eh6]; exact oK_pF' g5 rfl rfl g5
  refine zX_seg (pc' := 96) (L' := [.ref l0, .int l1, .int l2, .int l3, .int l2, .int x4, .float 0]) (st' := [.int l1, .int l2]) (h2 := h6) rfl rfl (fun C Cr hc kk => x_iload_n C rfl dX8_split_94 (x_iload_n C rfl dX8_split_95 (kk))) ?_
  refine zX_br (p1 := 108) (p2 := 99) (st' := []) (l2 < l1) (fun C kt kf => x_icmp_lt C 108 dX8_split_96 (by decide) kt kf) (fun q8 => ?_) (fun q8 => ?_)
  · replace H := H.1 q8
    refine zX_seg (pc' := 110) (L' := [.ref l0, .int l1, .int l2, .int l3, .int l2, .int x4, .float 0]) (st' := [.int x4]) (h2 := h6) rfl rfl (fun C Cr hc kk => x_iload C rfl dX8_split_108 (kk)) ?_
    refine zX_call (as := [.int x4]) (st := []) (fun C hM hc kk => x_callSN C [.int x4] hM kX11_isLetter sX11_isLetter lX8_87 ⟨by decide, by decide⟩ rfl hc (Nat.le_of_ble_eq_true rfl) rfl dX8_split_110 kk) (zC.mono H ?_)
    rintro r0 h9 ⟨x10, rfl, H⟩
    show zX mX8_split 113 [.ref l0, .int l1, .int l2, .int l3, .int l2, .int x4, .float 0] [.int x10] h9 Q
    refine zX_br (p1 := 126) (p2 := 116) (st' := []) (x10 = 0) (fun C kt kf => x_if_eq C 126 dX8_split_113 (by decide) kt kf) (fun q11 => ?_) (fun q11 => ?_)
    · replace H := H.1 q11
      refine zX_seg (pc' := 128) (L' := [.ref l0, .int l1, .int l2, .int l3, .int l2, .int x4, .float 0]) (st' := [.int x4]) (h2 := h9) rfl rfl (fun C Cr hc kk => x_iload C rfl dX8_split_126 (kk)) ?_
      refine zX_call (as := [.int x4]) (st := []) (fun C hM hc kk => x_callSN C [.int x4] hM kX11_isDigit sX11_isDigit lX8_93 ⟨by decide, by decide⟩ rfl hc (Nat.le_of_ble_eq_true rfl) rfl dX8_split_128 kk) (zC.mono H ?_)
      rintro r0 h12 ⟨x13, rfl, H⟩
      show zX mX8_split 131 [.ref l0, .int l1, .int l2, .int l3, .int l2, .int x4, .float 0] [.int x13] h12 Q
      refine zX_br (p1 := 144) (p2 := 134) (st' := []) (x13 = 0) (fun C kt kf => x_if_eq C 144 dX8_split_131 (by decide) kt kf) (fun q14 => ?_) (fun q14 => ?_)
      · replace H := H.1 q14
        refine zX_seg (pc' := 149) (L' := [.ref l0, .int l1, .int l2, .int l3, .int l2, .int x4, .float 0]) (st' := [.int ((x4.toUInt32 % 65536).toInt32), .retAddr 3]) (h2 := h12) rfl rfl (fun C Cr hc kk => f_ldcs99 C rfl dX8_split_144 (x_iload C rfl dX8_split_146 (x_i2c C dX8_split_148 (kk)))) ?_
        refine zX_call (as := [.retAddr 3, .int ((x4.toUInt32 % 65536).toInt32)]) (st := []) (fun C hM hc kk => f_callX (i := 1) C [.int ((x4.toUInt32 % 65536).toInt32)] hM kJ0_indexOf_0f7a4 vJ0_indexOf_0f7a4 lX8_101 ⟨by decide, by decide⟩ ⟨by decide, rfl⟩ rfl hc (Nat.le_of_ble_eq_true rfl) rfl dX8_split_149 kk) (zC.mono H ?_)
        rintro r0 h15 ⟨x16, rfl, H⟩
        show zX mX8_split 152 [.ref l0, .int l1, .int l2, .int l3, .int l2, .int x4, .float 0] [.int x16] h15 Q
        refine zX_seg (pc' := 157) (L' := [.ref l0, .int l1, .int l2, .int l3, .int l2, .int x4, .int x16]) (st' := [.int x16, .ref l0]) (h2 := h15) rfl rfl (fun C Cr hc kk => x_istore C (by decide) dX8_split_152 (x_aload_n C (v := .ref l0) rfl rfl dX8_split_154 (x_iload C rfl dX8_split_155 (kk)))) ?_
        refine zX_br (p1 := 165) (p2 := 160) (st' := [.ref l0]) (0 ≤ x16) (fun C kt kf => x_if_ge C 165 dX8_split_157 (by decide) kt kf) (fun q17 => ?_) (fun q17 => ?_)
        · replace H := H.1 q17
          obtain ⟨g18, H⟩ := H
          refine zX_seg (pc' := 173) (L' := [.ref l0, .int l1, .int l2, .int l3, .int l2, .int x4, .int x16]) (st' := []) (h2 := (pF h15 l0 8 (.int ((22 : Int32) + x16)))) rfl rfl (fun C Cr hc kk => x_bipush C (22 : Int32) (by decide) dX8_split_165 (x_iload C rfl dX8_split_167 (x_iadd C dX8_split_169 (f_putI C lX8_63 tX8 nX8_8 g18 rfl rfl dX8_split_170 (kk))))) ?_
          obtain ⟨h19, eh19⟩ : ∃ y : zH, y = (pF h15 l0 8 (.int ((22 : Int32) + x16))) := ⟨_, rfl⟩
          replace H := H h19 eh19
          rw [← eh19]
          have g20 : oK h19 l0 8 := by rw [eh19]; exact oK_pF' g18 rfl rfl g18
          refine zX_seg (pc' := 176) (L' := [.ref l0, .int l1, .int (l2 + 1), .int l3, .int l2, .int x4, .int x16]) (st' := []) (h2 := h19) rfl rfl (fun C Cr hc kk => x_iinc C (l2 + 1) rfl (congrArg (HAdd.hAdd _) (by decide)) (by decide) dX8_split_173 (kk)) ?_
          exact zX_wk (wkK (wkK (wkK (wkK (wkK (wkD (wkD wkN))))))) H
        · replace H := H.2 q17
          obtain ⟨g21, H⟩ := H
          refine zX_seg (pc' := 173) (L' := [.ref l0, .int l1, .int l2, .int l3, .int l2, .int x4, .int x16]) (st' := []) (h2 := (pF h15 l0 8 (.int (31 : Int32)))) rfl rfl (fun C Cr hc kk => x_bipush C (31 : Int32) (by decide) dX8_split_160 (x_goto C 170 dX8_split_162 (by decide) (f_putI C lX8_63 tX8 nX8_8 g21 rfl rfl dX8_split_170 (kk)))) ?_
          obtain ⟨h22, eh22⟩ : ∃ y : zH, y = (pF h15 l0 8 (.int (31 : Int32))) := ⟨_, rfl⟩
          replace H := H h22 eh22
          rw [← eh22]
          have g23 : oK h22 l0 8 := by rw [eh22]; exact oK_pF' g21 rfl rfl g21
          refine zX_seg (pc' := 176) (L' := [.ref l0, .int l1, .int (l2 + 1), .int l3, .int l2, .int x4, .int x16]) (st' := []) (h2 := h22) rfl rfl (fun C Cr hc kk => x_iinc C (l2 + 1) rfl (congrArg (HAdd.hAdd _) (by decide)) (by decide) dX8_split_173 (kk)) ?_
          exact zX_wk (wkK (wkK (wkK (wkK (wkK (wkD (wkD wkN))))))) H
      · replace H := H.2 q14
        refine zX_seg (pc' := 137) (L' := [.ref l0, .int l1, .int l2, .int l3, .int l2, .int x4, .float 0]) (st' := [.int l1, .int l2, .ref l0]) (h2 := h12) rfl rfl (fun C Cr hc kk => x_aload_n C (v := .ref l0) rfl rfl dX8_split_134 (x_iload_n C rfl dX8_split_135 (x_iload_n C rfl dX8_split_136 (kk)))) ?_
        obtain ⟨g24, H⟩ := H
        refine zX_call (as := [.ref l0, .int l2, .int l1]) (st := []) (fun C hM hc kk => f_callV C [.int l2, .int l1] hM kX8_endOfNumber vX8_endOfNumber lX8_96 ⟨by decide, by decide⟩ (rfl : vwCl[8]? = some (RX8, TX8, 11)) g24 rfl hc (Nat.le_of_ble_eq_true rfl) rfl dX8_split_137 kk) (zC.mono H ?_)
        rintro r0 h25 ⟨x26, rfl, H⟩
        show zX mX8_split 140 [.ref l0, .int l1, .int l2, .int l3, .int l2, .int x4, .float 0] [.int x26] h25 Q
        refine zX_seg (pc' := 176) (L' := [.ref l0, .int l1, .int x26, .int l3, .int l2, .int x4, .float 0]) (st' := []) (h2 := h25) rfl rfl (fun C Cr hc kk => x_istore_n C (by decide) dX8_split_140 (x_goto C 176 dX8_split_141 (by decide) (kk))) ?_
        exact zX_wk (wkK (wkK (wkK (wkK (wkK (wkD (wkD wkN))))))) H
    · replace H := H.2 q11
      refine zX_seg (pc' := 119) (L' := [.ref l0, .int l1, .int l2, .int l3, .int l2, .int x4, .float 0]) (st' := [.int l1, .int l2, .ref l0]) (h2 := h9) rfl rfl (fun C Cr hc kk => x_aload_n C (v := .ref l0) rfl rfl dX8_split_116 (x_iload_n C rfl dX8_split_117 (x_iload_n C rfl dX8_split_118 (kk)))) ?_
      obtain ⟨g27, H⟩ := H
      refine zX_call (as := [.ref l0, .int l2, .int l1]) (st := []) (fun C hM hc kk => f_callV C [.int l2, .int l1] hM kX8_endOfWord vX8_endOfWord lX8_90 ⟨by decide, by decide⟩ (rfl : vwCl[8]? = some (RX8, TX8, 11)) g27 rfl hc (Nat.le_of_ble_eq_true rfl) rfl dX8_split_119 kk) (zC.mono H ?_)
      rintro r0 h28 ⟨x29, rfl, H⟩
      show zX mX8_split 122 [.ref l0, .int l1, .int l2, .int l3, .int l2, .int x4, .float 0] [.int x29] h28 Q
      refine zX_seg (pc' := 176) (L' := [.ref l0, .int l1, .int x29, .int l3, .int l2, .int x4, .float 0]) (st' := []) (h2 := h28) rfl rfl (fun C Cr hc kk => x_istore_n C (by decide) dX8_split_122 (x_goto C 176 dX8_split_123 (by decide) (kk))) ?_
      exact zX_wk (wkK (wkK (wkK (wkK (wkK (wkD (wkD wkN))))))) H
  · replace H := H.2 q8
    refine zX_seg (pc' := 105) (L' := [.ref l0, .int l1, .int l2, .int l3, .int l2, .int x4, .float 0]) (st' := []) (h2 := (pF h6 l0 8 (.int (30 : Int32)))) rfl rfl (fun C Cr hc kk => x_aload_n C (v := .ref l0) rfl rfl dX8_split_99 (x_bipush C (30 : Int32) (by decide) dX8_split_100 (f_putI C lX8_63 tX8 nX8_8 g7 rfl rfl dX8_split_102 (kk)))) ?_
    obtain ⟨h30, eh30⟩ : ∃ y : zH, y = (pF h6 l0 8 (.int (30 : Int32))) := ⟨_, rfl⟩
    replace H := H h30 eh30
    rw [← eh30]
    have g31 : oK h30 l0 8 := by rw [eh30]; exact oK_pF' g7 rfl rfl g7
    refine zX_seg (pc' := 176) (L' := [.ref l0, .int l1, .int l2, .int l3, .int l2, .int x4, .float 0]) (st' := []) (h2 := h30) rfl rfl (fun C Cr hc kk => x_goto C 176 dX8_split_105 (by decide) (kk)) ?_
    exact zX_wk (wkK (wkK (wkK (wkK (wkK (wkD (wkD wkN))))))) H
set_option maxHeartbeats 20000000 in
theorem bX8_split_176 (l0 : Nat) (l1 : Int32) (l2 : Int32) (l3 : Int32) (l4 : Int32) (h : zH) (Q : Option Value → zH → Prop) (H : oK h l0 8 ∧ (zC mX8_keep [.ref l0, .int l4] h (fun r0 h2 => r0 = none ∧ (zX mX8_split 28 [.ref l0, .int l1, .int l2, .int (l3 + 1), .float 0, .float 0, .float 0] [] h2 Q)))) : zX mX8_split 176 [.ref l0, .int l1, .int l2, .int l3, .int l4, .float 0, .float 0] [] h Q := by
  refine zX_seg (pc' := 179) (L' := [.ref l0, .int l1, .int l2, .int l3, .int l4, .float 0, .float 0]) (st' := [.int l4, .ref l0]) (h2 := h) rfl rfl (fun C Cr hc kk => x_aload_n C (v := .ref l0) rfl rfl dX8_split_176 (x_iload C rfl dX8_split_177 (kk))) ?_
  obtain ⟨g1, H⟩ := H
  refine zX_call (as := [.ref l0, .int l4]) (st := []) (fun C hM hc kk => f_callV C [.int l4] hM kX8_keep vX8_keep lX8_105 ⟨by decide, by decide⟩ (rfl : vwCl[8]? = some (RX8, TX8, 11)) g1 rfl hc (Nat.le_of_ble_eq_true rfl) rfl dX8_split_179 kk) (zC.mono H ?_)
  rintro r0 h2 ⟨rfl, H⟩
  show zX mX8_split 182 [.ref l0, .int l1, .int l2, .int l3, .int l4, .float 0, .float 0] [] h2 Q
  refine zX_seg (pc' := 28) (L' := [.ref l0, .int l1, .int l2, .int (l3 + 1), .int l4, .float 0, .float 0]) (st' := []) (h2 := h2) rfl rfl (fun C Cr hc kk => x_iinc C (l3 + 1) rfl (congrArg (HAdd.hAdd _) (by decide)) (by decide) dX8_split_182 (x_goto C 28 dX8_split_185 (by decide) (kk))) ?_
  exact zX_wk (wkK (wkK (wkK (wkK (wkD (wkD (wkD wkN))))))) H
theorem nX8_split (t : Nat) (h : zH) (Q : Option Value → zH → Prop) (H : zX mX8_split 0 [.ref t, .float 0, .float 0, .float 0, .float 0, .float 0, .float 0] [] h Q) : zC mX8_split [.ref t] h Q := zC_of (by decide +kernel) (by simp) (Nat.le_of_ble_eq_true rfl) H
set_option maxHeartbeats 20000000 in
theorem bX8_keep_0 (t : Nat) (p0 : Int32) (h : zH) (Q : Option Value → zH → Prop) (H : oK h t 8 ∧ (((gI h t 6) < 0 → (Q none h)) ∧ (¬ ((gI h t 6) < 0) → (∃ a3 : Nat, gR h t 2 = some a3 ∧ (iK h a3 0 ∧ (((nI (aN h a3)) ≤ (gI h t 6) → (Q none h)) ∧ (¬ ((nI (aN h a3)) ≤ (gI h t 6)) → (vp_in (gI h t 6) (aN h a3) ∧ (∀ h7 : zH, h7 = (pI h a3 (gI h t 6).toNatClampNeg (gI h t 8)) → (∃ a10 : Nat, gR h7 t 3 = some a10 ∧ (iK h7 a10 0 ∧ (vp_in (gI h7 t 6) (aN h7 a10) ∧ (∀ h13 : zH, h13 = (pI h7 a10 (gI h7 t 6).toNatClampNeg p0) → (∃ a17 : Nat, gR h13 t 4 = some a17 ∧ (lK h13 a17 ∧ (vp_in (gI h13 t 6) (aN h13 a17) ∧ (∀ h20 : zH, h20 = (pL h13 a17 (gI h13 t 6).toNatClampNeg (gL h13 t 10)) → (∀ h25 : zH, h25 = (pF h20 t 6 (.int ((gI h20 t 6) + (1 : Int32)))) → (Q none h25))))))))))))))))))) : zX mX8_keep 0 [.ref t, .int p0] [] h Q := by
  obtain ⟨g1, H⟩ := H
  refine zX_seg (pc' := 4) (L' := [.ref t, .int p0]) (st' := [.int (gI h t 6)]) (h2 := h) rfl rfl (fun C Cr hc kk => x_aload_n C (v := .ref t) rfl rfl dX8_keep_0 (f_getI C lX8_60 g1 rfl dX8_keep_1 (kk))) ?_
  refine zX_br (p1 := 65) (p2 := 7) (st' := []) ((gI h t 6) < 0) (fun C kt kf => x_if_lt C 65 dX8_keep_4 (by decide) kt kf) (fun q2 => ?_) (fun q2 => ?_)
  · replace H := H.1 q2
    exact zX_ret none (fun C Cr hc => x_ret C Cr rfl hc dX8_keep_65 ⟨rfl, rfl⟩) H
  · replace H := H.2 q2
    obtain ⟨a3, ea3, H⟩ := H
    obtain ⟨g4, H⟩ := H
    refine zX_seg (pc' := 16) (L' := [.ref t, .int p0]) (st' := [.int (nI (aN h a3)), .int (gI h t 6)]) (h2 := h) rfl rfl (fun C Cr hc kk => x_aload_n C (v := .ref t) rfl rfl dX8_keep_7 (f_getI C lX8_60 g1 rfl dX8_keep_8 (x_aload_n C (v := .ref t) rfl rfl dX8_keep_11 (f_getR1 C lX8_19 g1 rfl ea3 dX8_keep_12 (f_alenI C (by decide) g4 dX8_keep_15 (kk)))))) ?_
    refine zX_br (p1 := 65) (p2 := 19) (st' := []) ((nI (aN h a3)) ≤ (gI h t 6)) (fun C kt kf => x_icmp_ge C 65 dX8_keep_16 (by decide) kt kf) (fun q5 => ?_) (fun q5 => ?_)
    · replace H := H.1 q5
      exact zX_ret none (fun C Cr hc => x_ret C Cr rfl hc dX8_keep_65 ⟨rfl, rfl⟩) H
    · replace H := H.2 q5
      obtain ⟨g6, H⟩ := H
      refine zX_seg (pc' := 32) (L' := [.ref t, .int p0]) (st' := []) (h2 := (pI h a3 (gI h t 6).toNatClampNeg (gI h t 8))) rfl rfl (fun C Cr hc kk => x_aload_n C (v := .ref t) rfl rfl dX8_keep_19 (f_getR1 C lX8_19 g1 rfl ea3 dX8_keep_20 (x_aload_n C (v := .ref t) rfl rfl dX8_keep_23 (f_getI C lX8_60 g1 rfl dX8_keep_24 (x_aload_n C (v := .ref t) rfl rfl dX8_keep_27 (f_getI C lX8_63 g1 rfl dX8_keep_28 (f_iast C g4 g6 dX8_keep_31 (kk)))))))) ?_
      obtain ⟨h7, eh7⟩ : ∃ y : zH, y = (pI h a3 (gI h t 6).toNatClampNeg (gI h t 8)) := ⟨_, rfl⟩
      replace H := H h7 eh7
      rw [← eh7]
      have g8 : oK h7 t 8 := by rw [eh7]; exact oK_pI g1
      have g9 : iK h7 a3 0 := by rw [eh7]; exact iK_pI g4
      obtain ⟨a10, ea10, H⟩ := H
      obtain ⟨g12, H⟩ := H
      obtain ⟨g11, H⟩ := H
      refine zX_seg (pc' := 42) (L' := [.ref t, .int p0]) (st' := []) (h2 := (pI h7 a10 (gI h7 t 6).toNatClampNeg p0)) rfl rfl (fun C Cr hc kk => x_aload_n C (v := .ref t) rfl rfl dX8_keep_32 (f_getR1 C lX8_22 g8 rfl ea10 dX8_keep_33 (x_aload_n C (v := .ref t) rfl rfl dX8_keep_36 (f_getI C lX8_60 g8 rfl dX8_keep_37 (x_iload_n C rfl dX8_keep_40 (f_iast C g12 g11 dX8_keep_41 (kk))))))) ?_
      obtain ⟨h13, eh13⟩ : ∃ y : zH, y = (pI h7 a10 (gI h7 t 6).toNatClampNeg p0) := ⟨_, rfl⟩
      replace H := H h13 eh13
      rw [← eh13]
      have g14 : oK h13 t 8 := by rw [eh13]; exact oK_pI g8
      have g15 : iK h13 a3 0 := by rw [eh13]; exact iK_pI g9
      have g16 : iK h13 a10 0 := by rw [eh13]; exact iK_pI g12
      obtain ⟨a17, ea17, H⟩ := H
      obtain ⟨g19, H⟩ := H
      obtain ⟨g18, H⟩ := H
      refine zX_seg (pc' := 55) (L' := [.ref t, .int p0]) (st' := []) (h2 := (pL h13 a17 (gI h13 t 6).toNatClampNeg (gL h13 t 10))) rfl rfl (fun C Cr hc kk => x_aload_n C (v := .ref t) rfl rfl dX8_keep_42 (f_getR1 C lX8_25 g14 rfl ea17 dX8_keep_43 (x_aload_n C (v := .ref t) rfl rfl dX8_keep_46 (f_getI C lX8_60 g14 rfl dX8_keep_47 (x_aload_n C (v := .ref t) rfl rfl dX8_keep_50 (f_getL C lX8_69 g14 rfl dX8_keep_51 (f_last C g19 g18 dX8_keep_54 (kk)))))))) ?_
      obtain ⟨h20, eh20⟩ : ∃ y : zH, y = (pL h13 a17 (gI h13 t 6).toNatClampNeg (gL h13 t 10)) := ⟨_, rfl⟩
      replace H := H h20 eh20
      rw [← eh20]
      have g21 : oK h20 t 8 := by rw [eh20]; exact oK_pL g14
      have g22 : iK h20 a3 0 := by rw [eh20]; exact iK_pL g15
      have g23 : iK h20 a10 0 := by rw [eh20]; exact iK_pL g16
      have g24 : lK h20 a17 := by rw [eh20]; exact lK_pL g19
      refine zX_seg (pc' := 65) (L' := [.ref t, .int p0]) (st' := []) (h2 := (pF h20 t 6 (.int ((gI h20 t 6) + (1 : Int32))))) rfl rfl (fun C Cr hc kk => x_aload_n C (v := .ref t) rfl rfl dX8_keep_55 (x_dup C rfl dX8_keep_56 (f_getI C lX8_60 g21 rfl dX8_keep_57 (x_iconst C (1 : Int32) (by decide) dX8_keep_60 (x_iadd C dX8_keep_61 (f_putI C lX8_60 tX8 nX8_6 g21 rfl rfl dX8_keep_62 (kk))))))) ?_
      obtain ⟨h25, eh25⟩ : ∃ y : zH, y = (pF h20 t 6 (.int ((gI h20 t 6) + (1 : Int32)))) := ⟨_, rfl⟩
      replace H := H h25 eh25
      rw [← eh25]
      have g26 : oK h25 t 8 := by rw [eh25]; exact oK_pF' g21 rfl rfl g21
      have g27 : iK h25 a3 0 := by rw [eh25]; exact iK_pF g22
      have g28 : iK h25 a10 0 := by rw [eh25]; exact iK_pF g23
      have g29 : lK h25 a17 := by rw [eh25]; exact lK_pF g24
      exact zX_ret none (fun C Cr hc => x_ret C Cr rfl hc dX8_keep_65 ⟨rfl, rfl⟩) H
theorem nX8_keep (t : Nat) (p0 : Int32) (h : zH) (Q : Option Value → zH → Prop) (H : zX mX8_keep 0 [.ref t, .int p0] [] h Q) : zC mX8_keep [.ref t, .int p0] h Q := zC_of (by decide +kernel) (by simp) (Nat.le_of_ble_eq_true rfl) H
set_option maxHeartbeats 20000000 in
theorem bX8_endOfWord_0 (t : Nat) (p0 : Int32) (p1 : Int32) (h : zH) (Q : Option Value → zH → Prop) (H : zX mX8_endOfWord 2 [.ref t, .int p0, .int p1, .int p0, .float 0] [] h Q) : zX mX8_endOfWord 0 [.ref t, .int p0, .int p1, .float 0, .float 0] [] h Q := by
  refine zX_seg (pc' := 2) (L' := [.ref t, .int p0, .int p1, .int p0, .float 0]) (st' := []) (h2 := h) rfl rfl (fun C Cr hc kk => x_iload_n C rfl dX8_endOfWord_0 (x_istore_n C (by decide) dX8_endOfWord_1 (kk))) ?_
  exact zX_wk (wkK (wkK (wkK (wkK (wkD wkN))))) H
set_option maxHeartbeats 20000000 in
theorem bX8_endOfWord_2 (l0 : Nat) (l1 : Int32) (l2 : Int32) (l3 : Int32) (h : zH) (Q : Option Value → zH → Prop) (H : (l2 ≤ l3 → (oK h l0 8 ∧ (∀ h3 : zH, h3 = (pF h l0 8 (.int (20 : Int32))) → (zX mX8_endOfWord 55 [.ref l0, .int l1, .float 0, .int l3, .int (0 : Int32)] [] h3 Q)))) ∧ (¬ (l2 ≤ l3) → (oK h l0 8 ∧ (∃ a6 : Nat, gR h l0 0 = some a6 ∧ (zC mX11_at [.ref a6, .int l3] h (fun r0 h7 => ∃ x8 : Int32, r0 = some (.int x8) ∧ (zC mX11_isLetter [.int x8] h7 (fun r0 h9 => ∃ x10 : Int32, r0 = some (.int x10) ∧ ((x10 = 0 → (oK h9 l0 8 ∧ (∀ h13 : zH, h13 = (pF h9 l0 8 (.int (20 : Int32))) → (zX mX8_endOfWord 55 [.ref l0, .int l1, .float 0, .int l3, .int (0 : Int32)] [] h13 Q)))) ∧ (¬ (x10 = 0) → (oK h9 l0 8 ∧ (∃ a16 : Nat, gR h9 l0 0 = some a16 ∧ (zC mX11_at [.ref a16, .int l3] h9 (fun r0 h17 => ∃ x18 : Int32, r0 = some (.int x18) ∧ (zC mX8_withLetter [.long (gL h9 l0 10), .int x18] h17 (fun r0 h19 => ∃ x20 : Int64, r0 = some (.long x20) ∧ (oK h19 l0 8 ∧ (∀ h22 : zH, h22 = (pF h19 l0 10 (.long x20)) → (zX mX8_endOfWord 2 [.ref l0, .int l1, .int l2, .int (l3 + 1), .float 0] [] h22 Q))))))))))))))))))) : zX mX8_endOfWord 2 [.ref l0, .int l1, .int l2, .int l3, .float 0] [] h Q := by
  refine zX_seg (pc' := 4) (L' := [.ref l0, .int l1, .int l2, .int l3, .float 0]) (st' := [.int l2, .int l3]) (h2 := h) rfl rfl (fun C Cr hc kk => x_iload_n C rfl dX8_endOfWord_2 (x_iload_n C rfl dX8_endOfWord_3 (kk))) ?_
  refine zX_br (p1 := 46) (p2 := 7) (st' := []) (l2 ≤ l3) (fun C kt kf => x_icmp_ge C 46 dX8_endOfWord_4 (by decide) kt kf) (fun q1 => ?_) (fun q1 => ?_)
  · replace H := H.1 q1
    obtain ⟨g2, H⟩ := H
    refine zX_seg (pc' := 52) (L' := [.ref l0, .int l1, .int l2, .int l3, .float 0]) (st' := []) (h2 := (pF h l0 8 (.int (20 : Int32)))) rfl rfl (fun C Cr hc kk => x_aload_n C (v := .ref l0) rfl rfl dX8_endOfWord_46 (x_bipush C (20 : Int32) (by decide) dX8_endOfWord_47 (f_putI C lX8_63 tX8 nX8_8 g2 rfl rfl dX8_endOfWord_49 (kk)))) ?_
    obtain ⟨h3, eh3⟩ : ∃ y : zH, y = (pF h l0 8 (.int (20 : Int32))) := ⟨_, rfl⟩
    replace H := H h3 eh3
    rw [← eh3]
    have g4 : oK h3 l0 8 := by rw [eh3]; exact oK_pF' g2 rfl rfl g2
    refine zX_seg (pc' := 55) (L' := [.ref l0, .int l1, .int l2, .int l3, .int (0 : Int32)]) (st' := []) (h2 := h3) rfl rfl (fun C Cr hc kk => x_iconst C (0 : Int32) (by decide) dX8_endOfWord_52 (x_istore C (by decide) dX8_endOfWord_53 (kk))) ?_
    exact zX_wk (wkK (wkK (wkD (wkK (wkK wkN))))) H
  · replace H := H.2 q1
    obtain ⟨g5, H⟩ := H
    obtain ⟨a6, ea6, H⟩ := H
    refine zX_seg (pc' := 12) (L' := [.ref l0, .int l1, .int l2, .int l3, .float 0]) (st' := [.int l3, .ref a6]) (h2 := h) rfl rfl (fun C Cr hc kk => x_aload_n C (v := .ref l0) rfl rfl dX8_endOfWord_7 (f_getR1 C lX8_9 g5 rfl ea6 dX8_endOfWord_8 (x_iload_n C rfl dX8_endOfWord_11 (kk)))) ?_
    refine zX_call (as := [.ref a6, .int l3]) (st := []) (fun C hM hc kk => x_callSN C [.ref a6, .int l3] hM kX11_at sX11_at lX8_79 ⟨by decide, by decide⟩ rfl hc (Nat.le_of_ble_eq_true rfl) rfl dX8_endOfWord_12 kk) (zC.mono H ?_)
    rintro r0 h7 ⟨x8, rfl, H⟩
    show zX mX8_endOfWord 15 [.ref l0, .int l1, .int l2, .int l3, .float 0] [.int x8] h7 Q
    refine zX_call (as := [.int x8]) (st := []) (fun C hM hc kk => x_callSN C [.int x8] hM kX11_isLetter sX11_isLetter lX8_87 ⟨by decide, by decide⟩ rfl hc (Nat.le_of_ble_eq_true rfl) rfl dX8_endOfWord_15 kk) (zC.mono H ?_)
    rintro r0 h9 ⟨x10, rfl, H⟩
    show zX mX8_endOfWord 18 [.ref l0, .int l1, .int l2, .int l3, .float 0] [.int x10] h9 Q
    refine zX_br (p1 := 46) (p2 := 21) (st' := []) (x10 = 0) (fun C kt kf => x_if_eq C 46 dX8_endOfWord_18 (by decide) kt kf) (fun q11 => ?_) (fun q11 => ?_)
    · replace H := H.1 q11
      obtain ⟨g12, H⟩ := H
      refine zX_seg (pc' := 52) (L' := [.ref l0, .int l1, .int l2, .int l3, .float 0]) (st' := []) (h2 := (pF h9 l0 8 (.int (20 : Int32)))) rfl rfl (fun C Cr hc kk => x_aload_n C (v := .ref l0) rfl rfl dX8_endOfWord_46 (x_bipush C (20 : Int32) (by decide) dX8_endOfWord_47 (f_putI C lX8_63 tX8 nX8_8 g12 rfl rfl dX8_endOfWord_49 (kk)))) ?_
      obtain ⟨h13, eh13⟩ : ∃ y : zH, y = (pF h9 l0 8 (.int (20 : Int32))) := ⟨_, rfl⟩
      replace H := H h13 eh13
      rw [← eh13]
      have g14 : oK h13 l0 8 := by rw [eh13]; exact oK_pF' g12 rfl rfl g12
      refine zX_seg (pc' := 55) (L' := [.ref l0, .int l1, .int l2, .int l3, .int (0 : Int32)]) (st' := []) (h2 := h13) rfl rfl (fun C Cr hc kk => x_iconst C (0 : Int32) (by decide) dX8_endOfWord_52 (x_istore C (by decide) dX8_endOfWord_53 (kk))) ?_
      exact zX_wk (wkK (wkK (wkD (wkK (wkK wkN))))) H
    · replace H := H.2 q11
      obtain ⟨g15, H⟩ := H
      obtain ⟨a16, ea16, H⟩ := H
      refine zX_seg (pc' := 31) (L' := [.ref l0, .int l1, .int l2, .int l3, .float 0]) (st' := [.int l3, .ref a16, .long (gL h9 l0 10), .ref l0]) (h2 := h9) rfl rfl (fun C Cr hc kk => x_aload_n C (v := .ref l0) rfl rfl dX8_endOfWord_21 (x_aload_n C (v := .ref l0) rfl rfl dX8_endOfWord_22 (f_getL C lX8_69 g15 rfl dX8_endOfWord_23 (x_aload_n C (v := .ref l0) rfl rfl dX8_endOfWord_26 (f_getR1 C lX8_9 g15 rfl ea16 dX8_endOfWord_27 (x_iload_n C rfl dX8_endOfWord_30 (kk))))))) ?_
      refine zX_call (as := [.ref a16, .int l3]) (st := [.long (gL h9 l0 10), .ref l0]) (fun C hM hc kk => x_callSN C [.ref a16, .int l3] hM kX11_at sX11_at lX8_79 ⟨by decide, by decide⟩ rfl hc (Nat.le_of_ble_eq_true rfl) rfl dX8_endOfWord_31 kk) (zC.mono H ?_)
      rintro r0 h17 ⟨x18, rfl, H⟩
      show zX mX8_endOfWord 34 [.ref l0, .int l1, .int l2, .int l3, .float 0] [.int x18, .long (gL h9 l0 10), .ref l0] h17 Q
      refine zX_call (as := [.long (gL h9 l0 10), .int x18]) (st := [.ref l0]) (fun C hM hc kk => x_callS C [.long (gL h9 l0 10), .int x18] hM kX8_withLetter sX8_withLetter lX8_40 ⟨by decide, by decide⟩ rfl hc (Nat.le_of_ble_eq_true rfl) rfl dX8_endOfWord_34 kk) (zC.mono H ?_)
      rintro r0 h19 ⟨x20, rfl, H⟩
      show zX mX8_endOfWord 37 [.ref l0, .int l1, .int l2, .int l3, .float 0] [.long x20, .ref l0] h19 Q
      obtain ⟨g21, H⟩ := H
      refine zX_seg (pc' := 40) (L' := [.ref l0, .int l1, .int l2, .int l3, .float 0]) (st' := []) (h2 := (pF h19 l0 10 (.long x20))) rfl rfl (fun C Cr hc kk => f_putL C lX8_69 tX8 nX8_10 g21 rfl rfl dX8_endOfWord_37 (kk)) ?_
      obtain ⟨h22, eh22⟩ : ∃ y : zH, y = (pF h19 l0 10 (.long x20)) := ⟨_, rfl⟩
      replace H := H h22 eh22
      rw [← eh22]
      have g23 : oK h22 l0 8 := by rw [eh22]; exact oK_pF' g21 rfl rfl g21
      refine zX_seg (pc' := 2) (L' := [.ref l0, .int l1, .int l2, .int (l3 + 1), .float 0]) (st' := []) (h2 := h22) rfl rfl (fun C Cr hc kk => x_iinc C (l3 + 1) rfl (congrArg (HAdd.hAdd _) (by decide)) (by decide) dX8_endOfWord_40 (x_goto C 2 dX8_endOfWord_43 (by decide) (kk))) ?_
      exact zX_wk (wkK (wkK (wkK (wkK (wkD wkN))))) H
set_option maxHeartbeats 20000000 in
theorem bX8_endOfWord_55 (l0 : Nat) (l1 : Int32) (l3 : Int32) (l4 : Int32) (h : zH) (Q : Option Value → zH → Prop) (H : oK h l0 8 ∧ (∃ a2 : Nat, gR h l0 1 = some a2 ∧ (lK h a2 ∧ (((nI (aN h a2)) ≤ l4 → (((l3 - l1) ≤ (8 : Int32) → (Q (some (.int l3)) h)) ∧ (¬ ((l3 - l1) ≤ (8 : Int32)) → (∀ h6 : zH, h6 = (pF h l0 8 (.int (31 : Int32))) → (Q (some (.int l3)) h6))))) ∧ (¬ ((nI (aN h a2)) ≤ l4) → (vp_in l4 (aN h a2) ∧ (((lg_cmp (aL h a2 l4.toNatClampNeg) (gL h l0 10)) = 0 → (∀ h11 : zH, h11 = (pF h l0 8 (.int l4)) → (zX mX8_endOfWord 55 [.ref l0, .int l1, .float 0, .int l3, .int (l4 + 1)] [] h11 Q))) ∧ (¬ ((lg_cmp (aL h a2 l4.toNatClampNeg) (gL h l0 10)) = 0) → (zX mX8_endOfWord 55 [.ref l0, .int l1, .float 0, .int l3, .int (l4 + 1)] [] h Q))))))))) : zX mX8_endOfWord 55 [.ref l0, .int l1, .float 0, .int l3, .int l4] [] h Q := by
  obtain ⟨g1, H⟩ := H
  obtain ⟨a2, ea2, H⟩ := H
  obtain ⟨g3, H⟩ := H
  refine zX_seg (pc' := 62) (L' := [.ref l0, .int l1, .float 0, .int l3, .int l4]) (st' := [.int (nI (aN h a2)), .int l4]) (h2 := h) rfl rfl (fun C Cr hc kk => x_iload C rfl dX8_endOfWord_55 (x_aload_n C (v := .ref l0) rfl rfl dX8_endOfWord_57 (f_getR1 C lX8_15 g1 rfl ea2 dX8_endOfWord_58 (f_alenL C g3 dX8_endOfWord_61 (kk))))) ?_
  refine zX_br (p1 := 92) (p2 := 65) (st' := []) ((nI (aN h a2)) ≤ l4) (fun C kt kf => x_icmp_ge C 92 dX8_endOfWord_62 (by decide) kt kf) (fun q4 => ?_) (fun q4 => ?_)
  · replace H := H.1 q4
    refine zX_seg (pc' := 97) (L' := [.ref l0, .int l1, .float 0, .int l3, .int l4]) (st' := [.int (8 : Int32), .int (l3 - l1)]) (h2 := h) rfl rfl (fun C Cr hc kk => x_iload_n C rfl dX8_endOfWord_92 (x_iload_n C rfl dX8_endOfWord_93 (x_isub C dX8_endOfWord_94 (x_bipush C (8 : Int32) (by decide) dX8_endOfWord_95 (kk))))) ?_
    refine zX_br (p1 := 106) (p2 := 100) (st' := []) ((l3 - l1) ≤ (8 : Int32)) (fun C kt kf => x_icmp_le C 106 dX8_endOfWord_97 (by decide) kt kf) (fun q5 => ?_) (fun q5 => ?_)
    · replace H := H.1 q5
      refine zX_seg (pc' := 107) (L' := [.ref l0, .int l1, .float 0, .int l3, .int l4]) (st' := [.int l3]) (h2 := h) rfl rfl (fun C Cr hc kk => x_iload_n C rfl dX8_endOfWord_106 (kk)) ?_
      exact zX_ret (some (.int l3)) (fun C Cr hc => x_iret C Cr rfl rfl hc dX8_endOfWord_107 ⟨rfl, rfl⟩) H
    · replace H := H.2 q5
      refine zX_seg (pc' := 106) (L' := [.ref l0, .int l1, .float 0, .int l3, .int l4]) (st' := []) (h2 := (pF h l0 8 (.int (31 : Int32)))) rfl rfl (fun C Cr hc kk => x_aload_n C (v := .ref l0) rfl rfl dX8_endOfWord_100 (x_bipush C (31 : Int32) (by decide) dX8_endOfWord_101 (f_putI C lX8_63 tX8 nX8_8 g1 rfl rfl dX8_endOfWord_103 (kk)))) ?_
      obtain ⟨h6, eh6⟩ : ∃ y : zH, y = (pF h l0 8 (.int (31 : Int32))) := ⟨_, rfl⟩
      replace H := H h6 eh6
      rw [← eh6]
      have g7 : oK h6 l0 8 := by rw [eh6]; exact oK_pF' g1 rfl rfl g1
      have g8 : lK h6 a2 := by rw [eh6]; exact lK_pF g3
      refine zX_seg (pc' := 107) (L' := [.ref l0, .int l1, .float 0, .int l3, .int l4]) (st' := [.int l3]) (h2 := h6) rfl rfl (fun C Cr hc kk => x_iload_n C rfl dX8_endOfWord_106 (kk)) ?_
      exact zX_ret (some (.int l3)) (fun C Cr hc => x_iret C Cr rfl rfl hc dX8_endOfWord_107 ⟨rfl, rfl⟩) H
  · replace H := H.2 q4
    obtain ⟨g9, H⟩ := H
    refine zX_seg (pc' := 77) (L' := [.ref l0, .int l1, .float 0, .int l3, .int l4]) (st' := [.int (lg_cmp (aL h a2 l4.toNatClampNeg) (gL h l0 10))]) (h2 := h) rfl rfl (fun C Cr hc kk => x_aload_n C (v := .ref l0) rfl rfl dX8_endOfWord_65 (f_getR1 C lX8_15 g1 rfl ea2 dX8_endOfWord_66 (x_iload C rfl dX8_endOfWord_69 (f_lald C g3 g9 dX8_endOfWord_71 (x_aload_n C (v := .ref l0) rfl rfl dX8_endOfWord_72 (f_getL C lX8_69 g1 rfl dX8_endOfWord_73 (x_lcmp C dX8_endOfWord_76 (kk)))))))) ?_
    refine zX_br (p1 := 80) (p2 := 86) (st' := []) ((lg_cmp (aL h a2 l4.toNatClampNeg) (gL h l0 10)) = 0) (fun C kt kf => x_if_ne C 86 dX8_endOfWord_77 (by decide) kf kt) (fun q10 => ?_) (fun q10 => ?_)
    · replace H := H.1 q10
      refine zX_seg (pc' := 86) (L' := [.ref l0, .int l1, .float 0, .int l3, .int l4]) (st' := []) (h2 := (pF h l0 8 (.int l4))) rfl rfl (fun C Cr hc kk => x_aload_n C (v := .ref l0) rfl rfl dX8_endOfWord_80 (x_iload C rfl dX8_endOfWord_81 (f_putI C lX8_63 tX8 nX8_8 g1 rfl rfl dX8_endOfWord_83 (kk)))) ?_
      obtain ⟨h11, eh11⟩ : ∃ y : zH, y = (pF h l0 8 (.int l4)) := ⟨_, rfl⟩
      replace H := H h11 eh11
      rw [← eh11]
      have g12 : oK h11 l0 8 := by rw [eh11]; exact oK_pF' g1 rfl rfl g1
      have g13 : lK h11 a2 := by rw [eh11]; exact lK_pF g3
      refine zX_seg (pc' := 55) (L' := [.ref l0, .int l1, .float 0, .int l3, .int (l4 + 1)]) (st' := []) (h2 := h11) rfl rfl (fun C Cr hc kk => x_iinc C (l4 + 1) rfl (congrArg (HAdd.hAdd _) (by decide)) (by decide) dX8_endOfWord_86 (x_goto C 55 dX8_endOfWord_89 (by decide) (kk))) ?_
      exact zX_wk (wkK (wkK (wkD (wkK (wkK wkN))))) H
    · replace H := H.2 q10
      refine zX_seg (pc' := 55) (L' := [.ref l0, .int l1, .float 0, .int l3, .int (l4 + 1)]) (st' := []) (h2 := h) rfl rfl (fun C Cr hc kk => x_iinc C (l4 + 1) rfl (congrArg (HAdd.hAdd _) (by decide)) (by decide) dX8_endOfWord_86 (x_goto C 55 dX8_endOfWord_89 (by decide) (kk))) ?_
      exact zX_wk (wkK (wkK (wkD (wkK (wkK wkN))))) H
theorem nX8_endOfWord (t : Nat) (p0 : Int32) (p1 : Int32) (h : zH) (Q : Option Value → zH → Prop) (H : zX mX8_endOfWord 0 [.ref t, .int p0, .int p1, .float 0, .float 0] [] h Q) : zC mX8_endOfWord [.ref t, .int p0, .int p1] h Q := zC_of (by decide +kernel) (by simp) (Nat.le_of_ble_eq_true rfl) H
set_option maxHeartbeats 20000000 in
theorem bX8_endOfNumber_0 (t : Nat) (p0 : Int32) (p1 : Int32) (h : zH) (Q : Option Value → zH → Prop) (H : zX mX8_endOfNumber 2 [.ref t, .int p0, .int p1, .int p0, .float 0] [] h Q) : zX mX8_endOfNumber 0 [.ref t, .int p0, .int p1, .float 0, .float 0] [] h Q := by
  refine zX_seg (pc' := 2) (L' := [.ref t, .int p0, .int p1, .int p0, .float 0]) (st' := []) (h2 := h) rfl rfl (fun C Cr hc kk => x_iload_n C rfl dX8_endOfNumber_0 (x_istore_n C (by decide) dX8_endOfNumber_1 (kk))) ?_
  exact zX_wk (wkK (wkK (wkK (wkK (wkD wkN))))) H
set_option maxHeartbeats 20000000 in
theorem bX8_endOfNumber_2 (l0 : Nat) (l1 : Int32) (l2 : Int32) (l3 : Int32) (h : zH) (Q : Option Value → zH → Prop) (H : (l2 ≤ l3 → (zX mX8_endOfNumber 53 [.ref l0, .int l1, .int l2, .int l3, .float 0] [] h Q)) ∧ (¬ (l2 ≤ l3) → (oK h l0 8 ∧ (∃ a3 : Nat, gR h l0 0 = some a3 ∧ (zC mX11_at [.ref a3, .int l3] h (fun r0 h4 => ∃ x5 : Int32, r0 = some (.int x5) ∧ (zC mX11_isDigit [.int x5] h4 (fun r0 h6 => ∃ x7 : Int32, r0 = some (.int x7) ∧ ((x7 = 0 → (zX mX8_endOfNumber 53 [.ref l0, .int l1, .int l2, .int l3, .float 0] [] h6 Q)) ∧ (¬ (x7 = 0) → (oK h6 l0 8 ∧ (∃ a10 : Nat, gR h6 l0 0 = some a10 ∧ (zC mX11_at [.ref a10, .int l3] h6 (fun r0 h11 => ∃ x12 : Int32, r0 = some (.int x12) ∧ (oK h11 l0 8 ∧ (∀ h14 : zH, h14 = (pF h11 l0 10 (.long ((((gL h6 l0 10) * (10 : Int64)) + (x12.toInt64)) - (48 : Int64)))) → (zX mX8_endOfNumber 2 [.ref l0, .int l1, .int l2, .int (l3 + 1), .float 0] [] h14 Q))))))))))))))))) : zX mX8_endOfNumber 2 [.ref l0, .int l1, .int l2, .int l3, .float 0] [] h Q := by
  refine zX_seg (pc' := 4) (L' := [.ref l0, .int l1, .int l2, .int l3, .float 0]) (st' := [.int l2, .int l3]) (h2 := h) rfl rfl (fun C Cr hc kk => x_iload_n C rfl dX8_endOfNumber_2 (x_iload_n C rfl dX8_endOfNumber_3 (kk))) ?_
  refine zX_br (p1 := 53) (p2 := 7) (st' := []) (l2 ≤ l3) (fun C kt kf => x_icmp_ge C 53 dX8_endOfNumber_4 (by decide) kt kf) (fun q1 => ?_) (fun q1 => ?_)
  · replace H := H.1 q1
    exact zX_wk (wkK (wkK (wkK (wkK (wkD wkN))))) H
  · replace H := H.2 q1
    obtain ⟨g2, H⟩ := H
    obtain ⟨a3, ea3, H⟩ := H
    refine zX_seg (pc' := 12) (L' := [.ref l0, .int l1, .int l2, .int l3, .float 0]) (st' := [.int l3, .ref a3]) (h2 := h) rfl rfl (fun C Cr hc kk => x_aload_n C (v := .ref l0) rfl rfl dX8_endOfNumber_7 (f_getR1 C lX8_9 g2 rfl ea3 dX8_endOfNumber_8 (x_iload_n C rfl dX8_endOfNumber_11 (kk)))) ?_
    refine zX_call (as := [.ref a3, .int l3]) (st := []) (fun C hM hc kk => x_callSN C [.ref a3, .int l3] hM kX11_at sX11_at lX8_79 ⟨by decide, by decide⟩ rfl hc (Nat.le_of_ble_eq_true rfl) rfl dX8_endOfNumber_12 kk) (zC.mono H ?_)
    rintro r0 h4 ⟨x5, rfl, H⟩
    show zX mX8_endOfNumber 15 [.ref l0, .int l1, .int l2, .int l3, .float 0] [.int x5] h4 Q
    refine zX_call (as := [.int x5]) (st := []) (fun C hM hc kk => x_callSN C [.int x5] hM kX11_isDigit sX11_isDigit lX8_93 ⟨by decide, by decide⟩ rfl hc (Nat.le_of_ble_eq_true rfl) rfl dX8_endOfNumber_15 kk) (zC.mono H ?_)
    rintro r0 h6 ⟨x7, rfl, H⟩
    show zX mX8_endOfNumber 18 [.ref l0, .int l1, .int l2, .int l3, .float 0] [.int x7] h6 Q
    refine zX_br (p1 := 53) (p2 := 21) (st' := []) (x7 = 0) (fun C kt kf => x_if_eq C 53 dX8_endOfNumber_18 (by decide) kt kf) (fun q8 => ?_) (fun q8 => ?_)
    · replace H := H.1 q8
      exact zX_wk (wkK (wkK (wkK (wkK (wkD wkN))))) H
    · replace H := H.2 q8
      obtain ⟨g9, H⟩ := H
      obtain ⟨a10, ea10, H⟩ := H
      refine zX_seg (pc' := 35) (L' := [.ref l0, .int l1, .int l2, .int l3, .float 0]) (st' := [.int l3, .ref a10, .long ((gL h6 l0 10) * (10 : Int64)), .ref l0]) (h2 := h6) rfl rfl (fun C Cr hc kk => x_aload_n C (v := .ref l0) rfl rfl dX8_endOfNumber_21 (x_aload_n C (v := .ref l0) rfl rfl dX8_endOfNumber_22 (f_getL C lX8_69 g9 rfl dX8_endOfNumber_23 (x_ldc2 C lX8_109 dX8_endOfNumber_26 (x_lmul C dX8_endOfNumber_29 (x_aload_n C (v := .ref l0) rfl rfl dX8_endOfNumber_30 (f_getR1 C lX8_9 g9 rfl ea10 dX8_endOfNumber_31 (x_iload_n C rfl dX8_endOfNumber_34 (kk))))))))) ?_
      refine zX_call (as := [.ref a10, .int l3]) (st := [.long ((gL h6 l0 10) * (10 : Int64)), .ref l0]) (fun C hM hc kk => x_callSN C [.ref a10, .int l3] hM kX11_at sX11_at lX8_79 ⟨by decide, by decide⟩ rfl hc (Nat.le_of_ble_eq_true rfl) rfl dX8_endOfNumber_35 kk) (zC.mono H ?_)
      rintro r0 h11 ⟨x12, rfl, H⟩
      show zX mX8_endOfNumber 38 [.ref l0, .int l1, .int l2, .int l3, .float 0] [.int x12, .long ((gL h6 l0 10) * (10 : Int64)), .ref l0] h11 Q
      obtain ⟨g13, H⟩ := H
      refine zX_seg (pc' := 47) (L' := [.ref l0, .int l1, .int l2, .int l3, .float 0]) (st' := []) (h2 := (pF h11 l0 10 (.long ((((gL h6 l0 10) * (10 : Int64)) + (x12.toInt64)) - (48 : Int64))))) rfl rfl (fun C Cr hc kk => x_i2l C dX8_endOfNumber_38 (x_ladd C dX8_endOfNumber_39 (x_ldc2 C lX8_111 dX8_endOfNumber_40 (x_lsub C dX8_endOfNumber_43 (f_putL C lX8_69 tX8 nX8_10 g13 rfl rfl dX8_endOfNumber_44 (kk)))))) ?_
      obtain ⟨h14, eh14⟩ : ∃ y : zH, y = (pF h11 l0 10 (.long ((((gL h6 l0 10) * (10 : Int64)) + (x12.toInt64)) - (48 : Int64)))) := ⟨_, rfl⟩
      replace H := H h14 eh14
      rw [← eh14]
      have g15 : oK h14 l0 8 := by rw [eh14]; exact oK_pF' g13 rfl rfl g13
      refine zX_seg (pc' := 2) (L' := [.ref l0, .int l1, .int l2, .int (l3 + 1), .float 0]) (st' := []) (h2 := h14) rfl rfl (fun C Cr hc kk => x_iinc C (l3 + 1) rfl (congrArg (HAdd.hAdd _) (by decide)) (by decide) dX8_endOfNumber_47 (x_goto C 2 dX8_endOfNumber_50 (by decide) (kk))) ?_
      exact zX_wk (wkK (wkK (wkK (wkK (wkD wkN))))) H
set_option maxHeartbeats 20000000 in
theorem bX8_endOfNumber_53 (l0 : Nat) (l1 : Int32) (l2 : Int32) (l3 : Int32) (h : zH) (Q : Option Value → zH → Prop) (H : (l2 ≤ l3 → (zX mX8_endOfNumber 76 [.ref l0, .int l1, .float 0, .int l3, .float 0] [] h Q)) ∧ (¬ (l2 ≤ l3) → (oK h l0 8 ∧ (∃ a3 : Nat, gR h l0 0 = some a3 ∧ (zC mX11_at [.ref a3, .int l3] h (fun r0 h4 => ∃ x5 : Int32, r0 = some (.int x5) ∧ (zC mX11_isLetter [.int x5] h4 (fun r0 h6 => ∃ x7 : Int32, r0 = some (.int x7) ∧ ((x7 = 0 → (zX mX8_endOfNumber 76 [.ref l0, .int l1, .float 0, .int l3, .float 0] [] h6 Q)) ∧ (¬ (x7 = 0) → (zX mX8_endOfNumber 77 [.ref l0, .int l1, .float 0, .int l3, .float 0] [.int (1 : Int32)] h6 Q))))))))))) : zX mX8_endOfNumber 53 [.ref l0, .int l1, .int l2, .int l3, .float 0] [] h Q := by
  refine zX_seg (pc' := 55) (L' := [.ref l0, .int l1, .int l2, .int l3, .float 0]) (st' := [.int l2, .int l3]) (h2 := h) rfl rfl (fun C Cr hc kk => x_iload_n C rfl dX8_endOfNumber_53 (x_iload_n C rfl dX8_endOfNumber_54 (kk))) ?_
  refine zX_br (p1 := 76) (p2 := 58) (st' := []) (l2 ≤ l3) (fun C kt kf => x_icmp_ge C 76 dX8_endOfNumber_55 (by decide) kt kf) (fun q1 => ?_) (fun q1 => ?_)
  · replace H := H.1 q1
    exact zX_wk (wkK (wkK (wkD (wkK (wkD wkN))))) H
  · replace H := H.2 q1
    obtain ⟨g2, H⟩ := H
    obtain ⟨a3, ea3, H⟩ := H
    refine zX_seg (pc' := 63) (L' := [.ref l0, .int l1, .int l2, .int l3, .float 0]) (st' := [.int l3, .ref a3]) (h2 := h) rfl rfl (fun C Cr hc kk => x_aload_n C (v := .ref l0) rfl rfl dX8_endOfNumber_58 (f_getR1 C lX8_9 g2 rfl ea3 dX8_endOfNumber_59 (x_iload_n C rfl dX8_endOfNumber_62 (kk)))) ?_
    refine zX_call (as := [.ref a3, .int l3]) (st := []) (fun C hM hc kk => x_callSN C [.ref a3, .int l3] hM kX11_at sX11_at lX8_79 ⟨by decide, by decide⟩ rfl hc (Nat.le_of_ble_eq_true rfl) rfl dX8_endOfNumber_63 kk) (zC.mono H ?_)
    rintro r0 h4 ⟨x5, rfl, H⟩
    show zX mX8_endOfNumber 66 [.ref l0, .int l1, .int l2, .int l3, .float 0] [.int x5] h4 Q
    refine zX_call (as := [.int x5]) (st := []) (fun C hM hc kk => x_callSN C [.int x5] hM kX11_isLetter sX11_isLetter lX8_87 ⟨by decide, by decide⟩ rfl hc (Nat.le_of_ble_eq_true rfl) rfl dX8_endOfNumber_66 kk) (zC.mono H ?_)
    rintro r0 h6 ⟨x7, rfl, H⟩
    show zX mX8_endOfNumber 69 [.ref l0, .int l1, .int l2, .int l3, .float 0] [.int x7] h6 Q
    refine zX_br (p1 := 76) (p2 := 72) (st' := []) (x7 = 0) (fun C kt kf => x_if_eq C 76 dX8_endOfNumber_69 (by decide) kt kf) (fun q8 => ?_) (fun q8 => ?_)
    · replace H := H.1 q8
      exact zX_wk (wkK (wkK (wkD (wkK (wkD wkN))))) H
    · replace H := H.2 q8
      refine zX_seg (pc' := 77) (L' := [.ref l0, .int l1, .int l2, .int l3, .float 0]) (st' := [.int (1 : Int32)]) (h2 := h6) rfl rfl (fun C Cr hc kk => x_iconst C (1 : Int32) (by decide) dX8_endOfNumber_72 (x_goto C 77 dX8_endOfNumber_73 (by decide) (kk))) ?_
      exact zX_wk (wkK (wkK (wkD (wkK (wkD wkN))))) H
set_option maxHeartbeats 20000000 in
theorem bX8_endOfNumber_76 (l0 : Nat) (l1 : Int32) (l3 : Int32) (h : zH) (Q : Option Value → zH → Prop) (H : zX mX8_endOfNumber 77 [.ref l0, .int l1, .float 0, .int l3, .float 0] [.int (0 : Int32)] h Q) : zX mX8_endOfNumber 76 [.ref l0, .int l1, .float 0, .int l3, .float 0] [] h Q := by
  refine zX_seg (pc' := 77) (L' := [.ref l0, .int l1, .float 0, .int l3, .float 0]) (st' := [.int (0 : Int32)]) (h2 := h) rfl rfl (fun C Cr hc kk => x_iconst C (0 : Int32) (by decide) dX8_endOfNumber_76 (kk)) ?_
  exact zX_wk (wkK (wkK (wkD (wkK (wkD wkN))))) H
set_option maxHeartbeats 20000000 in
theorem bX8_endOfNumber_77 (l0 : Nat) (l1 : Int32) (l3 : Int32) (s0 : Int32) (h : zH) (Q : Option Value → zH → Prop) (H : (s0 = 0 → (((l3 - l1) ≤ (4 : Int32) → (oK h l0 8 ∧ (∀ h4 : zH, h4 = (pF h l0 8 (.int (21 : Int32))) → (Q (some (.int l3)) h4)))) ∧ (¬ ((l3 - l1) ≤ (4 : Int32)) → (oK h l0 8 ∧ (∀ h7 : zH, h7 = (pF h l0 8 (.int (31 : Int32))) → (Q (some (.int l3)) h7)))))) ∧ (¬ (s0 = 0) → (oK h l0 8 ∧ (∀ h10 : zH, h10 = (pF h l0 8 (.int (31 : Int32))) → (Q (some (.int l3)) h10))))) : zX mX8_endOfNumber 77 [.ref l0, .int l1, .float 0, .int l3, .float 0] [.int s0] h Q := by
  refine zX_seg (pc' := 82) (L' := [.ref l0, .int l1, .float 0, .int l3, .int s0]) (st' := [.int s0, .ref l0]) (h2 := h) rfl rfl (fun C Cr hc kk => x_istore C (by decide) dX8_endOfNumber_77 (x_aload_n C (v := .ref l0) rfl rfl dX8_endOfNumber_79 (x_iload C rfl dX8_endOfNumber_80 (kk)))) ?_
  refine zX_br (p1 := 85) (p2 := 92) (st' := [.ref l0]) (s0 = 0) (fun C kt kf => x_if_ne C 92 dX8_endOfNumber_82 (by decide) kf kt) (fun q1 => ?_) (fun q1 => ?_)
  · replace H := H.1 q1
    refine zX_seg (pc' := 89) (L' := [.ref l0, .int l1, .float 0, .int l3, .int s0]) (st' := [.int (4 : Int32), .int (l3 - l1), .ref l0]) (h2 := h) rfl rfl (fun C Cr hc kk => x_iload_n C rfl dX8_endOfNumber_85 (x_iload_n C rfl dX8_endOfNumber_86 (x_isub C dX8_endOfNumber_87 (x_iconst C (4 : Int32) (by decide) dX8_endOfNumber_88 (kk))))) ?_
    refine zX_br (p1 := 97) (p2 := 92) (st' := [.ref l0]) ((l3 - l1) ≤ (4 : Int32)) (fun C kt kf => x_icmp_le C 97 dX8_endOfNumber_89 (by decide) kt kf) (fun q2 => ?_) (fun q2 => ?_)
    · replace H := H.1 q2
      obtain ⟨g3, H⟩ := H
      refine zX_seg (pc' := 102) (L' := [.ref l0, .int l1, .float 0, .int l3, .int s0]) (st' := []) (h2 := (pF h l0 8 (.int (21 : Int32)))) rfl rfl (fun C Cr hc kk => x_bipush C (21 : Int32) (by decide) dX8_endOfNumber_97 (f_putI C lX8_63 tX8 nX8_8 g3 rfl rfl dX8_endOfNumber_99 (kk))) ?_
      obtain ⟨h4, eh4⟩ : ∃ y : zH, y = (pF h l0 8 (.int (21 : Int32))) := ⟨_, rfl⟩
      replace H := H h4 eh4
      rw [← eh4]
      have g5 : oK h4 l0 8 := by rw [eh4]; exact oK_pF' g3 rfl rfl g3
      refine zX_seg (pc' := 103) (L' := [.ref l0, .int l1, .float 0, .int l3, .int s0]) (st' := [.int l3]) (h2 := h4) rfl rfl (fun C Cr hc kk => x_iload_n C rfl dX8_endOfNumber_102 (kk)) ?_
      exact zX_ret (some (.int l3)) (fun C Cr hc => x_iret C Cr rfl rfl hc dX8_endOfNumber_103 ⟨rfl, rfl⟩) H
    · replace H := H.2 q2
      obtain ⟨g6, H⟩ := H
      refine zX_seg (pc' := 102) (L' := [.ref l0, .int l1, .float 0, .int l3, .int s0]) (st' := []) (h2 := (pF h l0 8 (.int (31 : Int32)))) rfl rfl (fun C Cr hc kk => x_bipush C (31 : Int32) (by decide) dX8_endOfNumber_92 (x_goto C 99 dX8_endOfNumber_94 (by decide) (f_putI C lX8_63 tX8 nX8_8 g6 rfl rfl dX8_endOfNumber_99 (kk)))) ?_
      obtain ⟨h7, eh7⟩ : ∃ y : zH, y = (pF h l0 8 (.int (31 : Int32))) := ⟨_, rfl⟩
      replace H := H h7 eh7
      rw [← eh7]
      have g8 : oK h7 l0 8 := by rw [eh7]; exact oK_pF' g6 rfl rfl g6
      refine zX_seg (pc' := 103) (L' := [.ref l0, .int l1, .float 0, .int l3, .int s0]) (st' := [.int l3]) (h2 := h7) rfl rfl (fun C Cr hc kk => x_iload_n C rfl dX8_endOfNumber_102 (kk)) ?_
      exact zX_ret (some (.int l3)) (fun C Cr hc => x_iret C Cr rfl rfl hc dX8_endOfNumber_103 ⟨rfl, rfl⟩) H
  · replace H := H.2 q1
    obtain ⟨g9, H⟩ := H
    refine zX_seg (pc' := 102) (L' := [.ref l0, .int l1, .float 0, .int l3, .int s0]) (st' := []) (h2 := (pF h l0 8 (.int (31 : Int32)))) rfl rfl (fun C Cr hc kk => x_bipush C (31 : Int32) (by decide) dX8_endOfNumber_92 (x_goto C 99 dX8_endOfNumber_94 (by decide) (f_putI C lX8_63 tX8 nX8_8 g9 rfl rfl dX8_endOfNumber_99 (kk)))) ?_
    obtain ⟨h10, eh10⟩ : ∃ y : zH, y = (pF h l0 8 (.int (31 : Int32))) := ⟨_, rfl⟩
    replace H := H h10 eh10
    rw [← eh10]
    have g11 : oK h10 l0 8 := by rw [eh10]; exact oK_pF' g9 rfl rfl g9
    refine zX_seg (pc' := 103) (L' := [.ref l0, .int l1, .float 0, .int l3, .int s0]) (st' := [.int l3]) (h2 := h10) rfl rfl (fun C Cr hc kk => x_iload_n C rfl dX8_endOfNumber_102 (kk)) ?_
    exact zX_ret (some (.int l3)) (fun C Cr hc => x_iret C Cr rfl rfl hc dX8_endOfNumber_103 ⟨rfl, rfl⟩) H
theorem nX8_endOfNumber (t : Nat) (p0 : Int32) (p1 : Int32) (h : zH) (Q : Option Value → zH → Prop) (H : zX mX8_endOfNumber 0 [.ref t, .int p0, .int p1, .float 0, .float 0] [] h Q) : zC mX8_endOfNumber [.ref t, .int p0, .int p1] h Q := zC_of (by decide +kernel) (by simp) (Nat.le_of_ble_eq_true rfl) H
set_option maxHeartbeats 20000000 in
theorem bX8_withLetter_0 (p0 : Int64) (p1 : Int32) (h : zH) (Q : Option Value → zH → Prop) (H : Q (some (.long ((p0 <<< ((5 : Int32).toInt64 &&& 63)) ||| (((p1 - (97 : Int32)) + (1 : Int32)).toInt64)))) h) : zX mX8_withLetter 0 [.long p0, .float 0, .int p1] [] h Q := by
  refine zX_seg (pc' := 11) (L' := [.long p0, .float 0, .int p1]) (st' := [.long ((p0 <<< ((5 : Int32).toInt64 &&& 63)) ||| (((p1 - (97 : Int32)) + (1 : Int32)).toInt64))]) (h2 := h) rfl rfl (fun C Cr hc kk => x_lload_n C rfl dX8_withLetter_0 (x_iconst C (5 : Int32) (by decide) dX8_withLetter_1 (x_lshl C dX8_withLetter_2 (x_iload_n C rfl dX8_withLetter_3 (x_bipush C (97 : Int32) (by decide) dX8_withLetter_4 (x_isub C dX8_withLetter_6 (x_iconst C (1 : Int32) (by decide) dX8_withLetter_7 (x_iadd C dX8_withLetter_8 (x_i2l C dX8_withLetter_9 (x_lor C dX8_withLetter_10 (kk))))))))))) ?_
  exact zX_ret (some (.long ((p0 <<< ((5 : Int32).toInt64 &&& 63)) ||| (((p1 - (97 : Int32)) + (1 : Int32)).toInt64)))) (fun C Cr hc => x_lret C Cr rfl hc dX8_withLetter_11 ⟨rfl, rfl⟩) H
theorem nX8_withLetter (p0 : Int64) (p1 : Int32) (h : zH) (Q : Option Value → zH → Prop) (H : zX mX8_withLetter 0 [.long p0, .float 0, .int p1] [] h Q) : zC mX8_withLetter [.long p0, .int p1] h Q := zC_of (by decide +kernel) (by simp) (Nat.le_of_ble_eq_true rfl) H

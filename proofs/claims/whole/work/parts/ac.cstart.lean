/-! ===== at the beginning the class holds the empty state ===== -/
section
set_option maxRecDepth 20000
variable {h h' : zH} {Q : Option Value → zH → Prop} {j c k b q t P : Nat} {fs : List Value} {x : Int32}
def wz : zSt := ((rl0.1, rl0.2.1), (((rl0.2.2, ((fun _ => 0), [])), fun _ => none), ((0, fun _ => 0), (0, ((0, -1) : Nat × Int32)))))
/-- the class's cells stand as its constructor leaves them -/
def hs (h : zH) : Prop := ∀ j e, cL0[j]? = some e → h.2.2 j = e
theorem cL0_len : cL0.length = 84 := by decide +kernel
theorem hs_l0 {e : zE} (hj : cL0[j]? = some e) : j < 84 := by rw [← cL0_len]; exact (List.getElem?_eq_some_iff.mp hj).1
theorem hs_o (S : hs h) (l : 126 ≤ h.1) (hj : cL0[j]? = some (zO c fs)) (hz : zmt (zkd c) fs = true) : oK h j c := ⟨by have := hs_l0 hj; omega, fs, S j _ hj, hz⟩
theorem hs_r (S : hs h) (l : 126 ≤ h.1) (hj : cL0[j]? = some (zO c fs)) (hk : fs.getD k .null = .ref b) : gR h j k = some b := by
  have : gF h j k = fs.getD k .null := by simp only [gF, S j _ hj]
  show vR (gF h j k) = some b
  rw [this, hk]; rfl
theorem hs_g (S : hs h) (l : 126 ≤ h.1) (hj : cL0[j]? = some (zO c fs)) (hk : fs.getD k .null = .int x) : gI h j k = x := by
  have : gF h j k = fs.getD k .null := by simp only [gF, S j _ hj]
  show vI (gF h j k) = x
  rw [this, hk]; rfl
theorem hs_i {f : Nat → Int32} (S : hs h) (l : 126 ≤ h.1) (hj : cL0[j]? = some (zI t q f)) : iK h j t ∧ aN h j = q ∧ ∀ i, aI h j i = f i := ⟨⟨by have := hs_l0 hj; omega, q, f, S j _ hj⟩, by simp only [aN, S j _ hj], fun i => by simp only [aI, S j _ hj]⟩
theorem hs_l {f : Nat → Int64} (S : hs h) (l : 126 ≤ h.1) (hj : cL0[j]? = some (zL q f)) : lK h j ∧ aN h j = q ∧ ∀ i, aL h j i = f i := ⟨⟨by have := hs_l0 hj; omega, q, f, S j _ hj⟩, by simp only [aN, S j _ hj], fun i => by simp only [aL, S j _ hj]⟩
theorem hs_q {f : Nat → Option Nat} (S : hs h) (l : 126 ≤ h.1) (hj : cL0[j]? = some (zR t q f)) : rK h j t ∧ aN h j = q ∧ ∀ i, aR h j i = f i := ⟨⟨by have := hs_l0 hj; omega, q, f, S j _ hj⟩, by simp only [aN, S j _ hj], fun i => by simp only [aR, S j _ hj]⟩
theorem cBxs_3 : ∀ k, k < 3 → cBxs 3 k = some (43 + 9 * k) := by decide +kernel
theorem cl_0 : cL0[0]? = some (zO 11 [.ref 1, .ref 2, .ref 10, .ref 12, .ref 19, .ref 21, .ref 25, .ref 26, .ref 33, .ref 42, .ref 70, .ref 77, .int 0, .int 0, .int (-1)]) := rfl
theorem cl_1 : cL0[1]? = some (zO 4 [.ref 2, .ref 8, .ref 9, .null, .int 0, .int 0, .int 0, .int 0, .int 0, .int 0, .int 0, .int 0, .int 0, .int (-1)]) := rfl
theorem cl_2 : cL0[2]? = some (zO 8 [.ref 3, .ref 4, .ref 5, .ref 6, .ref 7, .int 0, .int 0, .int 0, .int 0, .int 0, .long 0]) := rfl
theorem cl_3 : cL0[3]? = some (zI 0 1600 (fun _ => 0)) := rfl
theorem cl_4 : cL0[4]? = some (zL 20 (wdR ownL)) := rfl
theorem cl_5 : cL0[5]? = some (zI 0 1601 (fun _ => 0)) := rfl
theorem cl_6 : cL0[6]? = some (zI 0 1601 (fun _ => 0)) := rfl
theorem cl_7 : cL0[7]? = some (zL 1601 (fun _ => 0)) := rfl
theorem cl_8 : cL0[8]? = some (zI 0 1600 (fun _ => 0)) := rfl
theorem cl_9 : cL0[9]? = some (zI 0 64 (fun _ => 0)) := rfl
theorem cl_10 : cL0[10]? = some (zO 6 [.ref 11, .int 0]) := rfl
theorem cl_11 : cL0[11]? = some (zI 0 64 (fun _ => 0)) := rfl
theorem cl_12 : cL0[12]? = some (zO 5 [.ref 13, .ref 15, .ref 16, .ref 17, .ref 18, .int 0, .int 0, .int 0, .int 0]) := rfl
theorem cl_13 : cL0[13]? = some (zO 6 [.ref 14, .int 0]) := rfl
theorem cl_14 : cL0[14]? = some (zI 0 64 (fun _ => 0)) := rfl
theorem cl_15 : cL0[15]? = some (zI 0 256 (fun _ => 0)) := rfl
theorem cl_16 : cL0[16]? = some (zI 0 1 (fun _ => 0)) := rfl
theorem cl_17 : cL0[17]? = some (zI 0 1 (fun _ => 0)) := rfl
theorem cl_18 : cL0[18]? = some (zI 0 1 (fun _ => 0)) := rfl
theorem cl_19 : cL0[19]? = some (zO 3 [.ref 20, .int 0, .int 0, .int 0, .int 0]) := rfl
theorem cl_20 : cL0[20]? = some (zI 0 8 (fun _ => 0)) := rfl
theorem cl_21 : cL0[21]? = some (zO 7 [.ref 22, .ref 23, .ref 24, .int 0]) := rfl
theorem cl_22 : cL0[22]? = some (zI 0 3 (fun _ => 0)) := rfl
theorem cl_23 : cL0[23]? = some (zI 0 3 (fun _ => 0)) := rfl
theorem cl_24 : cL0[24]? = some (zI 0 64 (fun _ => 0)) := rfl
theorem cl_25 : cL0[25]? = some (zO 9 [.int 0, .int 0, .int 0, .int 0, .int 0, .int 0]) := rfl
theorem cl_26 : cL0[26]? = some (zO 10 [.ref 27, .ref 28, .ref 29, .ref 30, .ref 31, .ref 32, .int 0, .int 0, .int 0, .int 0]) := rfl
theorem cl_30 : cL0[30]? = some (zI 0 8 (fun _ => 0)) := rfl
theorem cl_31 : cL0[31]? = some (zI 0 8 (fun _ => 0)) := rfl
theorem cl_33 : cL0[33]? = some (zO 1 [.ref 34, .ref 36, .ref 37, .int 0, .int 0]) := rfl
theorem cl_34 : cL0[34]? = some (zO 0 [.ref 35, .int 0, .int 0, .int 0]) := rfl
theorem cl_35 : cL0[35]? = some (zI 0 0 (fun _ => 0)) := rfl
theorem cl_36 : cL0[36]? = some (zR 0 8 (fun _ => none)) := rfl
theorem cl_37 : cL0[37]? = some (zO 2 [.ref 38, .ref 39, .ref 40, .ref 41, .int 0, .int 0, .int 0]) := rfl
theorem cl_38 : cL0[38]? = some (zI 0 20 (fun _ => 0)) := rfl
theorem cl_39 : cL0[39]? = some (zI 0 20 (fun _ => 0)) := rfl
theorem cl_40 : cL0[40]? = some (zI 0 20 (fun _ => 0)) := rfl
theorem cl_41 : cL0[41]? = some (zI 0 20 (fun _ => 0)) := rfl
theorem cl_42 : cL0[42]? = some (zR 1 3 (cBxs 3)) := rfl
theorem cl_43 : cL0[43]? = some (zO 1 [.ref 44, .ref 46, .ref 47, .int 0, .int 0]) := rfl
theorem cl_46 : cL0[46]? = some (zR 0 8 (fun _ => none)) := rfl
theorem cl_47 : cL0[47]? = some (zO 2 [.ref 48, .ref 49, .ref 50, .ref 51, .int 0, .int 0, .int 0]) := rfl
theorem cl_48 : cL0[48]? = some (zI 0 20 (fun _ => 0)) := rfl
theorem cl_49 : cL0[49]? = some (zI 0 20 (fun _ => 0)) := rfl
theorem cl_50 : cL0[50]? = some (zI 0 20 (fun _ => 0)) := rfl
theorem cl_51 : cL0[51]? = some (zI 0 20 (fun _ => 0)) := rfl
theorem cl_52 : cL0[52]? = some (zO 1 [.ref 53, .ref 55, .ref 56, .int 0, .int 0]) := rfl
theorem cl_55 : cL0[55]? = some (zR 0 8 (fun _ => none)) := rfl
theorem cl_56 : cL0[56]? = some (zO 2 [.ref 57, .ref 58, .ref 59, .ref 60, .int 0, .int 0, .int 0]) := rfl
theorem cl_57 : cL0[57]? = some (zI 0 20 (fun _ => 0)) := rfl
theorem cl_58 : cL0[58]? = some (zI 0 20 (fun _ => 0)) := rfl
theorem cl_59 : cL0[59]? = some (zI 0 20 (fun _ => 0)) := rfl
theorem cl_60 : cL0[60]? = some (zI 0 20 (fun _ => 0)) := rfl
theorem cl_61 : cL0[61]? = some (zO 1 [.ref 62, .ref 64, .ref 65, .int 0, .int 0]) := rfl
theorem cl_64 : cL0[64]? = some (zR 0 8 (fun _ => none)) := rfl
theorem cl_65 : cL0[65]? = some (zO 2 [.ref 66, .ref 67, .ref 68, .ref 69, .int 0, .int 0, .int 0]) := rfl
theorem cl_66 : cL0[66]? = some (zI 0 20 (fun _ => 0)) := rfl
theorem cl_67 : cL0[67]? = some (zI 0 20 (fun _ => 0)) := rfl
theorem cl_68 : cL0[68]? = some (zI 0 20 (fun _ => 0)) := rfl
theorem cl_69 : cL0[69]? = some (zI 0 20 (fun _ => 0)) := rfl
theorem cl_70 : cL0[70]? = some (zO 10 [.ref 71, .ref 72, .ref 73, .ref 74, .ref 75, .ref 76, .int 0, .int 0, .int 0, .int 0]) := rfl
theorem cl_71 : cL0[71]? = some (zL 3 (fun _ => 0)) := rfl
theorem cl_72 : cL0[72]? = some (zL 4 (fun _ => 0)) := rfl
theorem cl_73 : cL0[73]? = some (zL 8 (fun _ => 0)) := rfl
theorem cl_74 : cL0[74]? = some (zI 0 8 (fun _ => 0)) := rfl
theorem cl_75 : cL0[75]? = some (zI 0 8 (fun _ => 0)) := rfl
theorem cl_76 : cL0[76]? = some (zR 0 8 (fun _ => none)) := rfl
theorem cl_77 : cL0[77]? = some (zO 10 [.ref 78, .ref 79, .ref 80, .ref 81, .ref 82, .ref 83, .int 0, .int 0, .int 0, .int 0]) := rfl
theorem cl_78 : cL0[78]? = some (zL 3 (fun _ => 0)) := rfl
theorem cl_79 : cL0[79]? = some (zL 4 (fun _ => 0)) := rfl
theorem cl_80 : cL0[80]? = some (zL 8 (fun _ => 0)) := rfl
theorem cl_81 : cL0[81]? = some (zI 0 8 (fun _ => 0)) := rfl
theorem cl_82 : cL0[82]? = some (zI 0 8 (fun _ => 0)) := rfl
theorem cl_83 : cL0[83]? = some (zR 0 8 (fun _ => none)) := rfl
theorem z_0 (S : hs h) (l : 126 ≤ h.1) : cOb h 70 77 := ⟨(hs_o S l cl_0 rfl), ⟨(hs_r S l cl_0 rfl), (hs_r S l cl_0 rfl), (hs_r S l cl_0 rfl), (hs_r S l cl_0 rfl)⟩, ⟨(hs_r S l cl_0 rfl), (hs_r S l cl_0 rfl), (hs_r S l cl_0 rfl), (hs_r S l cl_0 rfl)⟩, ⟨(hs_r S l cl_0 rfl), (hs_r S l cl_0 rfl)⟩, (hs_r S l cl_0 rfl), (hs_r S l cl_0 rfl)⟩
theorem z_1 (S : hs h) (l : 126 ≤ h.1) : cT h 70 0 0 (wS wz) (wW wz) := ⟨Or.inr (Or.inl rfl), (hs_o S l cl_70 rfl), ⟨(hs_r S l cl_70 rfl), (hs_i S l cl_74).1, (hs_i S l cl_74).2.1⟩, ⟨(hs_r S l cl_70 rfl), (hs_i S l cl_75).1, (hs_i S l cl_75).2.1⟩, (hs_g S l cl_70 rfl), Nat.zero_le _, (hs_g S l cl_70 rfl), Nat.zero_le _, fun j hj => absurd hj (Nat.not_lt_zero j)⟩
theorem z_2 (S : hs h) (l : 126 ≤ h.1) : cKy h 70 (wK wz) := ⟨(hs_o S l cl_70 rfl), ⟨(hs_r S l cl_70 rfl), (hs_l S l cl_71).1, (hs_l S l cl_71).2.1, (hs_g S l cl_70 rfl), fun j hj => absurd hj (Nat.not_lt_zero j)⟩, ⟨(hs_r S l cl_70 rfl), (hs_l S l cl_72).1, (hs_l S l cl_72).2.1, (hs_g S l cl_70 rfl), fun j hj => absurd hj (Nat.not_lt_zero j)⟩, (hs_r S l cl_70 rfl), (hs_l S l cl_73).1, (hs_l S l cl_73).2.1, (hs_g S l cl_70 rfl), fun j hj => absurd hj (Nat.not_lt_zero j)⟩
theorem z_3 (S : hs h) (l : 126 ≤ h.1) : cTo h 70 := ⟨(hs_o S l cl_70 rfl), ⟨(hs_r S l cl_70 rfl), (hs_l S l cl_71).1, (hs_l S l cl_71).2.1⟩, ⟨(hs_r S l cl_70 rfl), (hs_l S l cl_72).1, (hs_l S l cl_72).2.1⟩, ⟨(hs_r S l cl_70 rfl), (hs_l S l cl_73).1, (hs_l S l cl_73).2.1⟩, ⟨(hs_r S l cl_70 rfl), (hs_i S l cl_74).1, (hs_i S l cl_74).2.1⟩, ⟨(hs_r S l cl_70 rfl), (hs_i S l cl_75).1, (hs_i S l cl_75).2.1⟩, ⟨(hs_r S l cl_70 rfl), (hs_q S l cl_76).1, (hs_q S l cl_76).2.1⟩⟩
theorem z_4 (S : hs h) (l : 126 ≤ h.1) : cTo h 77 := ⟨(hs_o S l cl_77 rfl), ⟨(hs_r S l cl_77 rfl), (hs_l S l cl_78).1, (hs_l S l cl_78).2.1⟩, ⟨(hs_r S l cl_77 rfl), (hs_l S l cl_79).1, (hs_l S l cl_79).2.1⟩, ⟨(hs_r S l cl_77 rfl), (hs_l S l cl_80).1, (hs_l S l cl_80).2.1⟩, ⟨(hs_r S l cl_77 rfl), (hs_i S l cl_81).1, (hs_i S l cl_81).2.1⟩, ⟨(hs_r S l cl_77 rfl), (hs_i S l cl_82).1, (hs_i S l cl_82).2.1⟩, ⟨(hs_r S l cl_77 rfl), (hs_q S l cl_83).1, (hs_q S l cl_83).2.1⟩⟩
theorem z_5 (S : hs h) (l : 126 ≤ h.1) : cOs h := ⟨⟨(hs_o S l cl_12 rfl), (hs_o S l cl_19 rfl), (hs_o S l cl_21 rfl), (hs_o S l cl_37 rfl)⟩, (hs_o S l cl_43 rfl), (hs_o S l cl_52 rfl), (hs_o S l cl_61 rfl)⟩
theorem z_6 (S : hs h) (l : 126 ≤ h.1) : cSp h 10 := ⟨Or.inl rfl, (hs_o S l cl_10 rfl), (hs_r S l cl_10 rfl), (hs_i S l cl_11).1, (hs_i S l cl_11).2.1⟩
theorem z_7 (S : hs h) (l : 126 ≤ h.1) : cSp h 13 := ⟨Or.inr rfl, (hs_o S l cl_13 rfl), (hs_r S l cl_13 rfl), (hs_i S l cl_14).1, (hs_i S l cl_14).2.1⟩
theorem z_8 (S : hs h) (l : 126 ≤ h.1) : cOl h := ⟨(hs_o S l cl_19 rfl), (hs_r S l cl_19 rfl), (hs_i S l cl_20).1, (hs_i S l cl_20).2.1⟩
theorem z_9 (S : hs h) (l : 126 ≤ h.1) : cSl h := ⟨(hs_o S l cl_21 rfl), ⟨(hs_r S l cl_21 rfl), (hs_i S l cl_22).1, (hs_i S l cl_22).2.1⟩, ⟨(hs_r S l cl_21 rfl), (hs_i S l cl_23).1, (hs_i S l cl_23).2.1⟩, ⟨(hs_r S l cl_21 rfl), (hs_i S l cl_24).1, (hs_i S l cl_24).2.1⟩⟩
theorem z_10 (S : hs h) (l : 126 ≤ h.1) : cBk h := ⟨(hs_o S l cl_34 rfl), ⟨(hs_r S l cl_34 rfl), (hs_i S l cl_35).1, (hs_i S l cl_35).2.1⟩, (hs_g S l cl_34 rfl), (hs_g S l cl_34 rfl), (hs_g S l cl_34 rfl)⟩
theorem z_11 (S : hs h) (l : 126 ≤ h.1) : cTl h 26 := ⟨(hs_o S l cl_26 rfl), ⟨(hs_r S l cl_26 rfl), (hs_i S l cl_30).1, (hs_i S l cl_30).2.1⟩, ⟨(hs_r S l cl_26 rfl), (hs_i S l cl_31).1, (hs_i S l cl_31).2.1⟩⟩
theorem z_12 (S : hs h) (l : 126 ≤ h.1) : cBxR h := ⟨(hs_o S l cl_0 rfl), (hs_r S l cl_0 rfl), (hs_q S l cl_42).1, (hs_q S l cl_42).2.1, fun k hk => by rw [(hs_q S l cl_42).2.2]; exact cBxs_3 k hk⟩
theorem z_cTL (S : hs h) (l : 126 ≤ h.1) : cTL h := ⟨⟨(hs_o S l cl_2 rfl), ⟨(hs_r S l cl_2 rfl), (hs_i S l cl_3).1, (hs_i S l cl_3).2.1⟩⟩, ⟨(hs_r S l cl_2 rfl), (hs_l S l cl_4).1, (hs_l S l cl_4).2.1, fun k _ => (hs_l S l cl_4).2.2 k⟩, ⟨(hs_r S l cl_2 rfl), (hs_i S l cl_5).1, (hs_i S l cl_5).2.1⟩, ⟨(hs_r S l cl_2 rfl), (hs_i S l cl_6).1, (hs_i S l cl_6).2.1⟩, ⟨(hs_r S l cl_2 rfl), (hs_l S l cl_7).1, (hs_l S l cl_7).2.1⟩⟩
theorem z_14 (S : hs h) (l : 126 ≤ h.1) : cRr h := ⟨(hs_o S l cl_1 rfl), (hs_r S l cl_1 rfl), ⟨(hs_r S l cl_1 rfl), (hs_i S l cl_8).1, (hs_i S l cl_8).2.1⟩, ⟨(hs_r S l cl_1 rfl), (hs_i S l cl_9).1, (hs_i S l cl_9).2.1⟩, z_cTL S l⟩
theorem z_15 (S : hs h) (l : 126 ≤ h.1) : cTp h 0 (wP wz).2 := ⟨(hs_g S l cl_2 rfl), Nat.zero_le _, fun j hj => absurd hj (Nat.not_lt_zero j)⟩
theorem z_16 (S : hs h) (l : 126 ≤ h.1) : cEn h 33 (fun _ => none) := ⟨(hs_o S l cl_33 rfl), (hs_r S l cl_33 rfl), (hs_r S l cl_33 rfl), ⟨(hs_q S l cl_36).1, (hs_q S l cl_36).2.1⟩, (hs_r S l cl_33 rfl), fun v _ => (hs_q S l cl_36).2.2 v⟩
theorem z_17 (S : hs h) (l : 126 ≤ h.1) : cHl h 37 [] := ⟨(hs_o S l cl_37 rfl), ⟨(hs_r S l cl_37 rfl), (hs_r S l cl_37 rfl), (hs_r S l cl_37 rfl), (hs_r S l cl_37 rfl)⟩, fun k hk => (by rcases (by omega : k = 0 ∨ k = 1 ∨ k = 2 ∨ k = 3) with rfl | rfl | rfl | rfl <;> first | exact ⟨(hs_i S l cl_38).1, (hs_i S l cl_38).2.1⟩ | exact ⟨(hs_i S l cl_39).1, (hs_i S l cl_39).2.1⟩ | exact ⟨(hs_i S l cl_40).1, (hs_i S l cl_40).2.1⟩ | exact ⟨(hs_i S l cl_41).1, (hs_i S l cl_41).2.1⟩), (hs_g S l cl_37 rfl), fun n q z => by cases z⟩
theorem z_18 (S : hs h) (l : 126 ≤ h.1) : cEn h 43 (fun _ => none) := ⟨(hs_o S l cl_43 rfl), (hs_r S l cl_43 rfl), (hs_r S l cl_43 rfl), ⟨(hs_q S l cl_46).1, (hs_q S l cl_46).2.1⟩, (hs_r S l cl_43 rfl), fun v _ => (hs_q S l cl_46).2.2 v⟩
theorem z_19 (S : hs h) (l : 126 ≤ h.1) : cHl h 47 [] := ⟨(hs_o S l cl_47 rfl), ⟨(hs_r S l cl_47 rfl), (hs_r S l cl_47 rfl), (hs_r S l cl_47 rfl), (hs_r S l cl_47 rfl)⟩, fun k hk => (by rcases (by omega : k = 0 ∨ k = 1 ∨ k = 2 ∨ k = 3) with rfl | rfl | rfl | rfl <;> first | exact ⟨(hs_i S l cl_48).1, (hs_i S l cl_48).2.1⟩ | exact ⟨(hs_i S l cl_49).1, (hs_i S l cl_49).2.1⟩ | exact ⟨(hs_i S l cl_50).1, (hs_i S l cl_50).2.1⟩ | exact ⟨(hs_i S l cl_51).1, (hs_i S l cl_51).2.1⟩), (hs_g S l cl_47 rfl), fun n q z => by cases z⟩
theorem z_20 (S : hs h) (l : 126 ≤ h.1) : cEn h 52 (fun _ => none) := ⟨(hs_o S l cl_52 rfl), (hs_r S l cl_52 rfl), (hs_r S l cl_52 rfl), ⟨(hs_q S l cl_55).1, (hs_q S l cl_55).2.1⟩, (hs_r S l cl_52 rfl), fun v _ => (hs_q S l cl_55).2.2 v⟩
theorem z_21 (S : hs h) (l : 126 ≤ h.1) : cHl h 56 [] := ⟨(hs_o S l cl_56 rfl), ⟨(hs_r S l cl_56 rfl), (hs_r S l cl_56 rfl), (hs_r S l cl_56 rfl), (hs_r S l cl_56 rfl)⟩, fun k hk => (by rcases (by omega : k = 0 ∨ k = 1 ∨ k = 2 ∨ k = 3) with rfl | rfl | rfl | rfl <;> first | exact ⟨(hs_i S l cl_57).1, (hs_i S l cl_57).2.1⟩ | exact ⟨(hs_i S l cl_58).1, (hs_i S l cl_58).2.1⟩ | exact ⟨(hs_i S l cl_59).1, (hs_i S l cl_59).2.1⟩ | exact ⟨(hs_i S l cl_60).1, (hs_i S l cl_60).2.1⟩), (hs_g S l cl_56 rfl), fun n q z => by cases z⟩
theorem z_22 (S : hs h) (l : 126 ≤ h.1) : cEn h 61 (fun _ => none) := ⟨(hs_o S l cl_61 rfl), (hs_r S l cl_61 rfl), (hs_r S l cl_61 rfl), ⟨(hs_q S l cl_64).1, (hs_q S l cl_64).2.1⟩, (hs_r S l cl_61 rfl), fun v _ => (hs_q S l cl_64).2.2 v⟩
theorem z_23 (S : hs h) (l : 126 ≤ h.1) : cHl h 65 [] := ⟨(hs_o S l cl_65 rfl), ⟨(hs_r S l cl_65 rfl), (hs_r S l cl_65 rfl), (hs_r S l cl_65 rfl), (hs_r S l cl_65 rfl)⟩, fun k hk => (by rcases (by omega : k = 0 ∨ k = 1 ∨ k = 2 ∨ k = 3) with rfl | rfl | rfl | rfl <;> first | exact ⟨(hs_i S l cl_66).1, (hs_i S l cl_66).2.1⟩ | exact ⟨(hs_i S l cl_67).1, (hs_i S l cl_67).2.1⟩ | exact ⟨(hs_i S l cl_68).1, (hs_i S l cl_68).2.1⟩ | exact ⟨(hs_i S l cl_69).1, (hs_i S l cl_69).2.1⟩), (hs_g S l cl_65 rfl), fun n q z => by cases z⟩
theorem z_24 (S : hs h) (l : 126 ≤ h.1) : cRl h 16 17 18 := ⟨⟨(hs_o S l cl_12 rfl), (hs_r S l cl_12 rfl), (hs_r S l cl_12 rfl), (hs_i S l cl_15).1, (hs_i S l cl_15).2.1⟩, ⟨(hs_r S l cl_12 rfl), (hs_i S l cl_16).1, Or.inl rfl, 0, by decide, (hs_i S l cl_16).2.1⟩, ⟨(hs_r S l cl_12 rfl), (hs_i S l cl_17).1, Or.inl rfl, by rw [(hs_i S l cl_17).2.1]; decide⟩, ⟨(hs_r S l cl_12 rfl), (hs_i S l cl_18).1, Or.inl rfl, by rw [(hs_i S l cl_18).2.1]; decide⟩, by decide, by decide, by decide⟩
theorem z_25 (S : hs h) (l : 126 ≤ h.1) : cRd h 16 0 0 (wf wz) 0 := ⟨(hs_g S l cl_12 rfl), by decide, Or.inr ⟨by rw [(hs_i S l cl_16).2.1]; decide, fun _ _ => 0, fun r _ _ => ⟨(hs_i S l cl_16).2.2 r, fun j hj => absurd hj (Nat.not_lt_zero j)⟩, fun r _ _ j hj => absurd hj (Nat.not_lt_zero j)⟩⟩
theorem z_fx (S : hs h) (l : 126 ≤ h.1) : cFx h wz 70 77 (fun _ => none) (fun _ _ => none) := by
  refine ⟨⟨l, Or.inl ⟨rfl, rfl⟩, (z_0 S l), ⟨(z_1 S l), (z_2 S l), ⟨(z_4 S l), (z_3 S l)⟩, 0, (hs_g S l cl_70 rfl), by decide, fun v => Nat.zero_testBit v⟩, (z_5 S l)⟩, ⟨(z_6 S l), (z_7 S l), (z_8 S l), (z_9 S l), ⟨(z_11 S l), (z_10 S l)⟩, (hs_o S l cl_25 rfl), (z_12 S l), (z_14 S l), (z_15 S l)⟩, ⟨⟨(z_16 S l), (z_17 S l), (hs_g S l cl_33 rfl)⟩, fun k hk => ?_⟩, (hs_g S l cl_0 rfl), (hs_g S l cl_0 rfl), (hs_g S l cl_0 rfl)⟩
  obtain rfl | rfl | rfl : k = 0 ∨ k = 1 ∨ k = 2 := by omega
  · exact ⟨(hs_g S l cl_43 rfl), (z_18 S l), [], (z_19 S l)⟩
  · exact ⟨(hs_g S l cl_52 rfl), (z_20 S l), [], (z_21 S l)⟩
  · exact ⟨(hs_g S l cl_61 rfl), (z_22 S l), [], (z_23 S l)⟩
theorem z_vr (S : hs h) (l : 126 ≤ h.1) : cVr h wz (fun _ => none) (fun _ _ => none) 16 17 18 :=
  ⟨(z_24 S l), Or.inl ⟨(hs_g S l cl_12 rfl), 0, (z_25 S l)⟩, ⟨fun v _ => ⟨cBk_B (z_10 S l) (by decide), fun b z => (by cases z)⟩, fun k e _ z => (by cases z)⟩, Or.inl (hs_g S l cl_19 rfl), 0, (hs_g S l cl_21 rfl), by decide, fun j hj => absurd hj (Nat.not_lt_zero j)⟩
theorem stO_wz : stO wz := ⟨rlO_0.1, fun v hv => absurd hv (Nat.not_lt_zero v), ⟨fun v hv => absurd hv (Nat.not_lt_zero v), ⟨by decide, fun v _ => rfl⟩, fun v hv => absurd hv (Nat.not_lt_zero v), by decide, fun q z => (by cases z)⟩, fun k e z => (by cases z), by decide⟩
theorem cR_wz (S : hs h) (l : h.1 = 126) (hP : h.2.1 ≤ P) : cR h wz P 0 :=
  ⟨stO_wz, 70, 77, fun _ => none, fun _ _ => none, 16, 17, 18, z_fx S (by omega), z_vr S (by omega), by rw [l]; decide, by omega⟩
end

/-! ===== the reference's constructor: its rows ===== -/
section
set_option maxRecDepth 20000
variable {h h' : zH} {Q : Option Value → zH → Prop} {l : List zE} {P : Nat}
def mF0 : List Value := [.null, .null, .int 0, .int 0, .int 0, .int 0, .int 0, .int 0, .int 0, .int 0, .long 0, .null, .null, .null, .null, .null, .null, .null, .null, .null, .null, .null, .null, .null, .null, .null, .int 0, .int 0, .null, .null, .null, .null, .int 0, .int 0, .int 0, .int 0, .int 0, .int 0, .null, .null, .int 0, .null, .null, .int 0, .null, .null, .null, .null, .null, .null, .null, .null, .null, .null, .int 0, .int 0, .null, .null, .null, .null, .null, .null]
def mLL : List (Nat × Nat × Nat) := [(0, 1, 1620), (1, 1, 1600), (11, 0, 2), (12, 0, 2), (13, 0, 2), (14, 0, 2), (15, 3, 6), (16, 3, 8), (17, 3, 16), (18, 0, 16), (19, 0, 16), (20, 2, 16), (21, 0, 48), (22, 0, 48), (23, 0, 30720), (24, 0, 30720), (25, 0, 30720), (28, 0, 120), (29, 0, 120), (30, 0, 8), (31, 0, 8), (38, 0, 9), (39, 0, 120), (41, 0, 65536), (42, 0, 65536), (44, 2, 256), (45, 0, 8), (46, 0, 8), (47, 0, 8), (48, 0, 64), (49, 0, 64), (50, 0, 20), (51, 0, 20), (52, 0, 20), (53, 0, 20), (56, 0, 3), (57, 0, 24), (58, 0, 60), (59, 0, 60), (60, 0, 60), (61, 0, 60)]
theorem s12_initR (A0 : mkI h [] (fun _ => 0)) (B0 : hA h 84 l [zO 12 mF0] P) (H : ∀ h', mkI h' mLL (fun k => if k = 40 then -1 else if k = 5 then -1 else 0) → (∀ j e, l[j]? = some e → h'.2.2 j = e) → h'.2.1 = P + 227836 → zC mX12_clearBank [.ref 84] h' (fun r0 h1916 => r0 = none ∧ (oK h1916 84 12 ∧ (zC mX12_layRows [.ref 84] h1916 (fun r0 h1918 => r0 = none ∧ (zX mX12_init 353 [.ref 84, .int (0 : Int32)] [] h1918 Q)))))) : zC mX12_init [.ref 84] h Q := by
  refine nX12_init _ _ _ (bX12_init_0 _ _ _ (fun h1 e1 => ⟨by rw [e1]; exact oK_zn A0.1, fun h4 e4 h7 e7 h11 e11 h15 e15 h19 e19 h24 e24 h29 e29 h35 e35 h41 e41 h48 e48 h55 e55 h63 e63 h71 e71 h80 e80 h89 e89 h99 e99 h109 e109 h120 e120 h131 e131 h143 e143 h155 e155 h168 e168 h181 e181 h195 e195 h209 e209 h224 e224 h239 e239 h255 e255 h271 e271 h288 e288 h305 e305 h323 e323 h341 e341 h360 e360 h379 e379 h399 e399 h419 e419 h440 e440 h461 e461 h483 e483 h505 e505 h528 e528 h551 e551 h575 e575 h599 e599 h624 e624 h649 e649 h674 e674 h700 e700 h726 e726 h753 e753 h780 e780 h808 e808 h836 e836 h865 e865 h894 e894 h924 e924 h954 e954 h985 e985 h1016 e1016 h1048 e1048 h1080 e1080 h1113 e1113 h1146 e1146 h1180 e1180 h1214 e1214 h1249 e1249 h1284 e1284 h1320 e1320 h1356 e1356 h1393 e1393 h1430 e1430 h1468 e1468 h1506 e1506 h1545 e1545 h1584 e1584 h1624 e1624 h1664 e1664 h1705 e1705 h1746 e1746 h1788 e1788 h1830 e1830 h1873 e1873 => ?_⟩))
  have A1 := mkI_s (f := 0) (t := 1) (n := 1620) A0 (by decide) (Or.inl ⟨by decide, rfl⟩) rfl rfl (by decide)
  rw [← e1, ← e4] at A1
  have B1a := hA_n e1 B0
  have B1 := hA_q (j := 0) (c := 85) e4 B1a rfl rfl B0.2.1
  have A2 := mkI_s (f := 1) (t := 1) (n := 1600) A1 (by decide) (Or.inl ⟨by decide, rfl⟩) rfl rfl (by decide)
  rw [← e7, ← e11] at A2
  have B2a := hA_n e7 B1
  have B2 := hA_q (j := 0) (c := 86) e11 B2a rfl rfl B1.2.1
  have A3 := mkI_i (f := 5) (x := -1) A2 (by decide) rfl rfl (by decide)
  rw [← e15] at A3
  have B3 := hA_p (j := 0) e15 B2 rfl rfl
  have A4 := mkI_s (f := 11) (t := 0) (n := 2) A3 (by decide) (Or.inl ⟨by decide, rfl⟩) rfl rfl (by decide)
  rw [← e19, ← e24] at A4
  have B4a := hA_n e19 B3
  have B4 := hA_q (j := 0) (c := 87) e24 B4a rfl rfl B3.2.1
  have A5 := mkI_s (f := 12) (t := 0) (n := 2) A4 (by decide) (Or.inl ⟨by decide, rfl⟩) rfl rfl (by decide)
  rw [← e29, ← e35] at A5
  have B5a := hA_n e29 B4
  have B5 := hA_q (j := 0) (c := 88) e35 B5a rfl rfl B4.2.1
  have A6 := mkI_s (f := 13) (t := 0) (n := 2) A5 (by decide) (Or.inl ⟨by decide, rfl⟩) rfl rfl (by decide)
  rw [← e41, ← e48] at A6
  have B6a := hA_n e41 B5
  have B6 := hA_q (j := 0) (c := 89) e48 B6a rfl rfl B5.2.1
  have A7 := mkI_s (f := 14) (t := 0) (n := 2) A6 (by decide) (Or.inl ⟨by decide, rfl⟩) rfl rfl (by decide)
  rw [← e55, ← e63] at A7
  have B7a := hA_n e55 B6
  have B7 := hA_q (j := 0) (c := 90) e63 B7a rfl rfl B6.2.1
  have A8 := mkI_s (f := 15) (t := 3) (n := 6) A7 (by decide) (Or.inr ⟨rfl, rfl⟩) rfl rfl (by decide)
  rw [← e71, ← e80] at A8
  have B8a := hA_n e71 B7
  have B8 := hA_q (j := 0) (c := 91) e80 B8a rfl rfl B7.2.1
  have A9 := mkI_s (f := 16) (t := 3) (n := 8) A8 (by decide) (Or.inr ⟨rfl, rfl⟩) rfl rfl (by decide)
  rw [← e89, ← e99] at A9
  have B9a := hA_n e89 B8
  have B9 := hA_q (j := 0) (c := 92) e99 B9a rfl rfl B8.2.1
  have A10 := mkI_s (f := 17) (t := 3) (n := 16) A9 (by decide) (Or.inr ⟨rfl, rfl⟩) rfl rfl (by decide)
  rw [← e109, ← e120] at A10
  have B10a := hA_n e109 B9
  have B10 := hA_q (j := 0) (c := 93) e120 B10a rfl rfl B9.2.1
  have A11 := mkI_s (f := 18) (t := 0) (n := 16) A10 (by decide) (Or.inl ⟨by decide, rfl⟩) rfl rfl (by decide)
  rw [← e131, ← e143] at A11
  have B11a := hA_n e131 B10
  have B11 := hA_q (j := 0) (c := 94) e143 B11a rfl rfl B10.2.1
  have A12 := mkI_s (f := 19) (t := 0) (n := 16) A11 (by decide) (Or.inl ⟨by decide, rfl⟩) rfl rfl (by decide)
  rw [← e155, ← e168] at A12
  have B12a := hA_n e155 B11
  have B12 := hA_q (j := 0) (c := 95) e168 B12a rfl rfl B11.2.1
  have A13 := mkI_s (f := 20) (t := 2) (n := 16) A12 (by decide) (Or.inl ⟨by decide, rfl⟩) rfl rfl (by decide)
  rw [← e181, ← e195] at A13
  have B13a := hA_n e181 B12
  have B13 := hA_q (j := 0) (c := 96) e195 B13a rfl rfl B12.2.1
  have A14 := mkI_s (f := 21) (t := 0) (n := 48) A13 (by decide) (Or.inl ⟨by decide, rfl⟩) rfl rfl (by decide)
  rw [← e209, ← e224] at A14
  have B14a := hA_n e209 B13
  have B14 := hA_q (j := 0) (c := 97) e224 B14a rfl rfl B13.2.1
  have A15 := mkI_s (f := 22) (t := 0) (n := 48) A14 (by decide) (Or.inl ⟨by decide, rfl⟩) rfl rfl (by decide)
  rw [← e239, ← e255] at A15
  have B15a := hA_n e239 B14
  have B15 := hA_q (j := 0) (c := 98) e255 B15a rfl rfl B14.2.1
  have A16 := mkI_s (f := 23) (t := 0) (n := 30720) A15 (by decide) (Or.inl ⟨by decide, rfl⟩) rfl rfl (by decide)
  rw [← e271, ← e288] at A16
  have B16a := hA_n e271 B15
  have B16 := hA_q (j := 0) (c := 99) e288 B16a rfl rfl B15.2.1
  have A17 := mkI_s (f := 24) (t := 0) (n := 30720) A16 (by decide) (Or.inl ⟨by decide, rfl⟩) rfl rfl (by decide)
  rw [← e305, ← e323] at A17
  have B17a := hA_n e305 B16
  have B17 := hA_q (j := 0) (c := 100) e323 B17a rfl rfl B16.2.1
  have A18 := mkI_s (f := 25) (t := 0) (n := 30720) A17 (by decide) (Or.inl ⟨by decide, rfl⟩) rfl rfl (by decide)
  rw [← e341, ← e360] at A18
  have B18a := hA_n e341 B17
  have B18 := hA_q (j := 0) (c := 101) e360 B18a rfl rfl B17.2.1
  have A19 := mkI_s (f := 28) (t := 0) (n := 120) A18 (by decide) (Or.inl ⟨by decide, rfl⟩) rfl rfl (by decide)
  rw [← e379, ← e399] at A19
  have B19a := hA_n e379 B18
  have B19 := hA_q (j := 0) (c := 102) e399 B19a rfl rfl B18.2.1
  have A20 := mkI_s (f := 29) (t := 0) (n := 120) A19 (by decide) (Or.inl ⟨by decide, rfl⟩) rfl rfl (by decide)
  rw [← e419, ← e440] at A20
  have B20a := hA_n e419 B19
  have B20 := hA_q (j := 0) (c := 103) e440 B20a rfl rfl B19.2.1
  have A21 := mkI_s (f := 30) (t := 0) (n := 8) A20 (by decide) (Or.inl ⟨by decide, rfl⟩) rfl rfl (by decide)
  rw [← e461, ← e483] at A21
  have B21a := hA_n e461 B20
  have B21 := hA_q (j := 0) (c := 104) e483 B21a rfl rfl B20.2.1
  have A22 := mkI_s (f := 31) (t := 0) (n := 8) A21 (by decide) (Or.inl ⟨by decide, rfl⟩) rfl rfl (by decide)
  rw [← e505, ← e528] at A22
  have B22a := hA_n e505 B21
  have B22 := hA_q (j := 0) (c := 105) e528 B22a rfl rfl B21.2.1
  have A23 := mkI_s (f := 38) (t := 0) (n := 9) A22 (by decide) (Or.inl ⟨by decide, rfl⟩) rfl rfl (by decide)
  rw [← e551, ← e575] at A23
  have B23a := hA_n e551 B22
  have B23 := hA_q (j := 0) (c := 106) e575 B23a rfl rfl B22.2.1
  have A24 := mkI_s (f := 39) (t := 0) (n := 120) A23 (by decide) (Or.inl ⟨by decide, rfl⟩) rfl rfl (by decide)
  rw [← e599, ← e624] at A24
  have B24a := hA_n e599 B23
  have B24 := hA_q (j := 0) (c := 107) e624 B24a rfl rfl B23.2.1
  have A25 := mkI_i (f := 40) (x := -1) A24 (by decide) rfl rfl (by decide)
  rw [← e649] at A25
  have B25 := hA_p (j := 0) e649 B24 rfl rfl
  have A26 := mkI_s (f := 41) (t := 0) (n := 65536) A25 (by decide) (Or.inl ⟨by decide, rfl⟩) rfl rfl (by decide)
  rw [← e674, ← e700] at A26
  have B26a := hA_n e674 B25
  have B26 := hA_q (j := 0) (c := 108) e700 B26a rfl rfl B25.2.1
  have A27 := mkI_s (f := 42) (t := 0) (n := 65536) A26 (by decide) (Or.inl ⟨by decide, rfl⟩) rfl rfl (by decide)
  rw [← e726, ← e753] at A27
  have B27a := hA_n e726 B26
  have B27 := hA_q (j := 0) (c := 109) e753 B27a rfl rfl B26.2.1
  have A28 := mkI_s (f := 44) (t := 2) (n := 256) A27 (by decide) (Or.inl ⟨by decide, rfl⟩) rfl rfl (by decide)
  rw [← e780, ← e808] at A28
  have B28a := hA_n e780 B27
  have B28 := hA_q (j := 0) (c := 110) e808 B28a rfl rfl B27.2.1
  have A29 := mkI_s (f := 45) (t := 0) (n := 8) A28 (by decide) (Or.inl ⟨by decide, rfl⟩) rfl rfl (by decide)
  rw [← e836, ← e865] at A29
  have B29a := hA_n e836 B28
  have B29 := hA_q (j := 0) (c := 111) e865 B29a rfl rfl B28.2.1
  have A30 := mkI_s (f := 46) (t := 0) (n := 8) A29 (by decide) (Or.inl ⟨by decide, rfl⟩) rfl rfl (by decide)
  rw [← e894, ← e924] at A30
  have B30a := hA_n e894 B29
  have B30 := hA_q (j := 0) (c := 112) e924 B30a rfl rfl B29.2.1
  have A31 := mkI_s (f := 47) (t := 0) (n := 8) A30 (by decide) (Or.inl ⟨by decide, rfl⟩) rfl rfl (by decide)
  rw [← e954, ← e985] at A31
  have B31a := hA_n e954 B30
  have B31 := hA_q (j := 0) (c := 113) e985 B31a rfl rfl B30.2.1
  have A32 := mkI_s (f := 48) (t := 0) (n := 64) A31 (by decide) (Or.inl ⟨by decide, rfl⟩) rfl rfl (by decide)
  rw [← e1016, ← e1048] at A32
  have B32a := hA_n e1016 B31
  have B32 := hA_q (j := 0) (c := 114) e1048 B32a rfl rfl B31.2.1
  have A33 := mkI_s (f := 49) (t := 0) (n := 64) A32 (by decide) (Or.inl ⟨by decide, rfl⟩) rfl rfl (by decide)
  rw [← e1080, ← e1113] at A33
  have B33a := hA_n e1080 B32
  have B33 := hA_q (j := 0) (c := 115) e1113 B33a rfl rfl B32.2.1
  have A34 := mkI_s (f := 50) (t := 0) (n := 20) A33 (by decide) (Or.inl ⟨by decide, rfl⟩) rfl rfl (by decide)
  rw [← e1146, ← e1180] at A34
  have B34a := hA_n e1146 B33
  have B34 := hA_q (j := 0) (c := 116) e1180 B34a rfl rfl B33.2.1
  have A35 := mkI_s (f := 51) (t := 0) (n := 20) A34 (by decide) (Or.inl ⟨by decide, rfl⟩) rfl rfl (by decide)
  rw [← e1214, ← e1249] at A35
  have B35a := hA_n e1214 B34
  have B35 := hA_q (j := 0) (c := 117) e1249 B35a rfl rfl B34.2.1
  have A36 := mkI_s (f := 52) (t := 0) (n := 20) A35 (by decide) (Or.inl ⟨by decide, rfl⟩) rfl rfl (by decide)
  rw [← e1284, ← e1320] at A36
  have B36a := hA_n e1284 B35
  have B36 := hA_q (j := 0) (c := 118) e1320 B36a rfl rfl B35.2.1
  have A37 := mkI_s (f := 53) (t := 0) (n := 20) A36 (by decide) (Or.inl ⟨by decide, rfl⟩) rfl rfl (by decide)
  rw [← e1356, ← e1393] at A37
  have B37a := hA_n e1356 B36
  have B37 := hA_q (j := 0) (c := 119) e1393 B37a rfl rfl B36.2.1
  have A38 := mkI_s (f := 56) (t := 0) (n := 3) A37 (by decide) (Or.inl ⟨by decide, rfl⟩) rfl rfl (by decide)
  rw [← e1430, ← e1468] at A38
  have B38a := hA_n e1430 B37
  have B38 := hA_q (j := 0) (c := 120) e1468 B38a rfl rfl B37.2.1
  have A39 := mkI_s (f := 57) (t := 0) (n := 24) A38 (by decide) (Or.inl ⟨by decide, rfl⟩) rfl rfl (by decide)
  rw [← e1506, ← e1545] at A39
  have B39a := hA_n e1506 B38
  have B39 := hA_q (j := 0) (c := 121) e1545 B39a rfl rfl B38.2.1
  have A40 := mkI_s (f := 58) (t := 0) (n := 60) A39 (by decide) (Or.inl ⟨by decide, rfl⟩) rfl rfl (by decide)
  rw [← e1584, ← e1624] at A40
  have B40a := hA_n e1584 B39
  have B40 := hA_q (j := 0) (c := 122) e1624 B40a rfl rfl B39.2.1
  have A41 := mkI_s (f := 59) (t := 0) (n := 60) A40 (by decide) (Or.inl ⟨by decide, rfl⟩) rfl rfl (by decide)
  rw [← e1664, ← e1705] at A41
  have B41a := hA_n e1664 B40
  have B41 := hA_q (j := 0) (c := 123) e1705 B41a rfl rfl B40.2.1
  have A42 := mkI_s (f := 60) (t := 0) (n := 60) A41 (by decide) (Or.inl ⟨by decide, rfl⟩) rfl rfl (by decide)
  rw [← e1746, ← e1788] at A42
  have B42a := hA_n e1746 B41
  have B42 := hA_q (j := 0) (c := 124) e1788 B42a rfl rfl B41.2.1
  have A43 := mkI_s (f := 61) (t := 0) (n := 60) A42 (by decide) (Or.inl ⟨by decide, rfl⟩) rfl rfl (by decide)
  rw [← e1830, ← e1873] at A43
  have B43a := hA_n e1830 B42
  have B43 := hA_q (j := 0) (c := 125) e1873 B43a rfl rfl B42.2.1
  exact H _ A43 (fun j e hj => B43.2.2.2 j e (by rw [List.getElem?_append_left (List.getElem?_eq_some_iff.mp hj).1]; exact hj)) (B43.2.2.1.trans (congrArg (fun x => P + x) (by decide +kernel)))
end

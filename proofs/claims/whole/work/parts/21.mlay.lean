/-! ===== the reference's cells ===== -/
def mRefs : List Nat := [0, 1, 11, 12, 13, 14, 15, 16, 17, 18, 19, 20, 21, 22, 23, 24, 25, 28, 29, 30, 31, 38, 39, 41, 42, 44, 45, 46, 47, 48, 49, 50, 51, 52, 53, 56, 57, 58, 59, 60, 61]
def mLay (h : zH) : Prop := oK h 84 12 ∧ 126 ≤ h.1 ∧ (gR h 84 0 = some 85 ∧ iK h 85 1 ∧ aN h 85 = 1620) ∧ (gR h 84 1 = some 86 ∧ iK h 86 1 ∧ aN h 86 = 1600) ∧ (gR h 84 11 = some 87 ∧ iK h 87 0 ∧ aN h 87 = 2) ∧ (gR h 84 12 = some 88 ∧ iK h 88 0 ∧ aN h 88 = 2) ∧ (gR h 84 13 = some 89 ∧ iK h 89 0 ∧ aN h 89 = 2) ∧ (gR h 84 14 = some 90 ∧ iK h 90 0 ∧ aN h 90 = 2) ∧ (gR h 84 15 = some 91 ∧ lK h 91 ∧ aN h 91 = 6) ∧ (gR h 84 16 = some 92 ∧ lK h 92 ∧ aN h 92 = 8) ∧ (gR h 84 17 = some 93 ∧ lK h 93 ∧ aN h 93 = 16) ∧ (gR h 84 18 = some 94 ∧ iK h 94 0 ∧ aN h 94 = 16) ∧ (gR h 84 19 = some 95 ∧ iK h 95 0 ∧ aN h 95 = 16) ∧ (gR h 84 20 = some 96 ∧ iK h 96 2 ∧ aN h 96 = 16) ∧ (gR h 84 21 = some 97 ∧ iK h 97 0 ∧ aN h 97 = 48) ∧ (gR h 84 22 = some 98 ∧ iK h 98 0 ∧ aN h 98 = 48) ∧ (gR h 84 23 = some 99 ∧ iK h 99 0 ∧ aN h 99 = 30720) ∧ (gR h 84 24 = some 100 ∧ iK h 100 0 ∧ aN h 100 = 30720) ∧ (gR h 84 25 = some 101 ∧ iK h 101 0 ∧ aN h 101 = 30720) ∧ (gR h 84 28 = some 102 ∧ iK h 102 0 ∧ aN h 102 = 120) ∧ (gR h 84 29 = some 103 ∧ iK h 103 0 ∧ aN h 103 = 120) ∧ (gR h 84 30 = some 104 ∧ iK h 104 0 ∧ aN h 104 = 8) ∧ (gR h 84 31 = some 105 ∧ iK h 105 0 ∧ aN h 105 = 8) ∧ (gR h 84 38 = some 106 ∧ iK h 106 0 ∧ aN h 106 = 9) ∧ (gR h 84 39 = some 107 ∧ iK h 107 0 ∧ aN h 107 = 120) ∧ (gR h 84 41 = some 108 ∧ iK h 108 0 ∧ aN h 108 = 65536) ∧ (gR h 84 42 = some 109 ∧ iK h 109 0 ∧ aN h 109 = 65536) ∧ (gR h 84 44 = some 110 ∧ iK h 110 2 ∧ aN h 110 = 256) ∧ (gR h 84 45 = some 111 ∧ iK h 111 0 ∧ aN h 111 = 8) ∧ (gR h 84 46 = some 112 ∧ iK h 112 0 ∧ aN h 112 = 8) ∧ (gR h 84 47 = some 113 ∧ iK h 113 0 ∧ aN h 113 = 8) ∧ (gR h 84 48 = some 114 ∧ iK h 114 0 ∧ aN h 114 = 64) ∧ (gR h 84 49 = some 115 ∧ iK h 115 0 ∧ aN h 115 = 64) ∧ (gR h 84 50 = some 116 ∧ iK h 116 0 ∧ aN h 116 = 20) ∧ (gR h 84 51 = some 117 ∧ iK h 117 0 ∧ aN h 117 = 20) ∧ (gR h 84 52 = some 118 ∧ iK h 118 0 ∧ aN h 118 = 20) ∧ (gR h 84 53 = some 119 ∧ iK h 119 0 ∧ aN h 119 = 20) ∧ (gR h 84 56 = some 120 ∧ iK h 120 0 ∧ aN h 120 = 3) ∧ (gR h 84 57 = some 121 ∧ iK h 121 0 ∧ aN h 121 = 24) ∧ (gR h 84 58 = some 122 ∧ iK h 122 0 ∧ aN h 122 = 60) ∧ (gR h 84 59 = some 123 ∧ iK h 123 0 ∧ aN h 123 = 60) ∧ (gR h 84 60 = some 124 ∧ iK h 124 0 ∧ aN h 124 = 60) ∧ (gR h 84 61 = some 125 ∧ iK h 125 0 ∧ aN h 125 = 60)
theorem mLay.o {h : zH} (L : mLay h) : oK h 84 12 := L.1
theorem mLay.r0 {h : zH} (L : mLay h) : gR h 84 0 = some 85 := L.2.2.1.1
theorem mLay.k0 {h : zH} (L : mLay h) : iK h 85 1 := L.2.2.1.2.1
theorem mLay.n0 {h : zH} (L : mLay h) : aN h 85 = 1620 := L.2.2.1.2.2
theorem mLay.r1 {h : zH} (L : mLay h) : gR h 84 1 = some 86 := L.2.2.2.1.1
theorem mLay.k1 {h : zH} (L : mLay h) : iK h 86 1 := L.2.2.2.1.2.1
theorem mLay.n1 {h : zH} (L : mLay h) : aN h 86 = 1600 := L.2.2.2.1.2.2
theorem mLay.r11 {h : zH} (L : mLay h) : gR h 84 11 = some 87 := L.2.2.2.2.1.1
theorem mLay.k11 {h : zH} (L : mLay h) : iK h 87 0 := L.2.2.2.2.1.2.1
theorem mLay.n11 {h : zH} (L : mLay h) : aN h 87 = 2 := L.2.2.2.2.1.2.2
theorem mLay.r12 {h : zH} (L : mLay h) : gR h 84 12 = some 88 := L.2.2.2.2.2.1.1
theorem mLay.k12 {h : zH} (L : mLay h) : iK h 88 0 := L.2.2.2.2.2.1.2.1
theorem mLay.n12 {h : zH} (L : mLay h) : aN h 88 = 2 := L.2.2.2.2.2.1.2.2
theorem mLay.r13 {h : zH} (L : mLay h) : gR h 84 13 = some 89 := L.2.2.2.2.2.2.1.1
theorem mLay.k13 {h : zH} (L : mLay h) : iK h 89 0 := L.2.2.2.2.2.2.1.2.1
theorem mLay.n13 {h : zH} (L : mLay h) : aN h 89 = 2 := L.2.2.2.2.2.2.1.2.2
theorem mLay.r14 {h : zH} (L : mLay h) : gR h 84 14 = some 90 := L.2.2.2.2.2.2.2.1.1
theorem mLay.k14 {h : zH} (L : mLay h) : iK h 90 0 := L.2.2.2.2.2.2.2.1.2.1
theorem mLay.n14 {h : zH} (L : mLay h) : aN h 90 = 2 := L.2.2.2.2.2.2.2.1.2.2
theorem mLay.r15 {h : zH} (L : mLay h) : gR h 84 15 = some 91 := L.2.2.2.2.2.2.2.2.1.1
theorem mLay.k15 {h : zH} (L : mLay h) : lK h 91 := L.2.2.2.2.2.2.2.2.1.2.1
theorem mLay.n15 {h : zH} (L : mLay h) : aN h 91 = 6 := L.2.2.2.2.2.2.2.2.1.2.2
theorem mLay.r16 {h : zH} (L : mLay h) : gR h 84 16 = some 92 := L.2.2.2.2.2.2.2.2.2.1.1
theorem mLay.k16 {h : zH} (L : mLay h) : lK h 92 := L.2.2.2.2.2.2.2.2.2.1.2.1
theorem mLay.n16 {h : zH} (L : mLay h) : aN h 92 = 8 := L.2.2.2.2.2.2.2.2.2.1.2.2
theorem mLay.r17 {h : zH} (L : mLay h) : gR h 84 17 = some 93 := L.2.2.2.2.2.2.2.2.2.2.1.1
theorem mLay.k17 {h : zH} (L : mLay h) : lK h 93 := L.2.2.2.2.2.2.2.2.2.2.1.2.1
theorem mLay.n17 {h : zH} (L : mLay h) : aN h 93 = 16 := L.2.2.2.2.2.2.2.2.2.2.1.2.2
theorem mLay.r18 {h : zH} (L : mLay h) : gR h 84 18 = some 94 := L.2.2.2.2.2.2.2.2.2.2.2.1.1
theorem mLay.k18 {h : zH} (L : mLay h) : iK h 94 0 := L.2.2.2.2.2.2.2.2.2.2.2.1.2.1
theorem mLay.n18 {h : zH} (L : mLay h) : aN h 94 = 16 := L.2.2.2.2.2.2.2.2.2.2.2.1.2.2
theorem mLay.r19 {h : zH} (L : mLay h) : gR h 84 19 = some 95 := L.2.2.2.2.2.2.2.2.2.2.2.2.1.1
theorem mLay.k19 {h : zH} (L : mLay h) : iK h 95 0 := L.2.2.2.2.2.2.2.2.2.2.2.2.1.2.1
theorem mLay.n19 {h : zH} (L : mLay h) : aN h 95 = 16 := L.2.2.2.2.2.2.2.2.2.2.2.2.1.2.2
theorem mLay.r20 {h : zH} (L : mLay h) : gR h 84 20 = some 96 := L.2.2.2.2.2.2.2.2.2.2.2.2.2.1.1
theorem mLay.k20 {h : zH} (L : mLay h) : iK h 96 2 := L.2.2.2.2.2.2.2.2.2.2.2.2.2.1.2.1
theorem mLay.n20 {h : zH} (L : mLay h) : aN h 96 = 16 := L.2.2.2.2.2.2.2.2.2.2.2.2.2.1.2.2
theorem mLay.r21 {h : zH} (L : mLay h) : gR h 84 21 = some 97 := L.2.2.2.2.2.2.2.2.2.2.2.2.2.2.1.1
theorem mLay.k21 {h : zH} (L : mLay h) : iK h 97 0 := L.2.2.2.2.2.2.2.2.2.2.2.2.2.2.1.2.1
theorem mLay.n21 {h : zH} (L : mLay h) : aN h 97 = 48 := L.2.2.2.2.2.2.2.2.2.2.2.2.2.2.1.2.2
theorem mLay.r22 {h : zH} (L : mLay h) : gR h 84 22 = some 98 := L.2.2.2.2.2.2.2.2.2.2.2.2.2.2.2.1.1
theorem mLay.k22 {h : zH} (L : mLay h) : iK h 98 0 := L.2.2.2.2.2.2.2.2.2.2.2.2.2.2.2.1.2.1
theorem mLay.n22 {h : zH} (L : mLay h) : aN h 98 = 48 := L.2.2.2.2.2.2.2.2.2.2.2.2.2.2.2.1.2.2
theorem mLay.r23 {h : zH} (L : mLay h) : gR h 84 23 = some 99 := L.2.2.2.2.2.2.2.2.2.2.2.2.2.2.2.2.1.1
theorem mLay.k23 {h : zH} (L : mLay h) : iK h 99 0 := L.2.2.2.2.2.2.2.2.2.2.2.2.2.2.2.2.1.2.1
theorem mLay.n23 {h : zH} (L : mLay h) : aN h 99 = 30720 := L.2.2.2.2.2.2.2.2.2.2.2.2.2.2.2.2.1.2.2
theorem mLay.r24 {h : zH} (L : mLay h) : gR h 84 24 = some 100 := L.2.2.2.2.2.2.2.2.2.2.2.2.2.2.2.2.2.1.1
theorem mLay.k24 {h : zH} (L : mLay h) : iK h 100 0 := L.2.2.2.2.2.2.2.2.2.2.2.2.2.2.2.2.2.1.2.1
theorem mLay.n24 {h : zH} (L : mLay h) : aN h 100 = 30720 := L.2.2.2.2.2.2.2.2.2.2.2.2.2.2.2.2.2.1.2.2
theorem mLay.r25 {h : zH} (L : mLay h) : gR h 84 25 = some 101 := L.2.2.2.2.2.2.2.2.2.2.2.2.2.2.2.2.2.2.1.1
theorem mLay.k25 {h : zH} (L : mLay h) : iK h 101 0 := L.2.2.2.2.2.2.2.2.2.2.2.2.2.2.2.2.2.2.1.2.1
theorem mLay.n25 {h : zH} (L : mLay h) : aN h 101 = 30720 := L.2.2.2.2.2.2.2.2.2.2.2.2.2.2.2.2.2.2.1.2.2
theorem mLay.r28 {h : zH} (L : mLay h) : gR h 84 28 = some 102 := L.2.2.2.2.2.2.2.2.2.2.2.2.2.2.2.2.2.2.2.1.1
theorem mLay.k28 {h : zH} (L : mLay h) : iK h 102 0 := L.2.2.2.2.2.2.2.2.2.2.2.2.2.2.2.2.2.2.2.1.2.1
theorem mLay.n28 {h : zH} (L : mLay h) : aN h 102 = 120 := L.2.2.2.2.2.2.2.2.2.2.2.2.2.2.2.2.2.2.2.1.2.2
theorem mLay.r29 {h : zH} (L : mLay h) : gR h 84 29 = some 103 := L.2.2.2.2.2.2.2.2.2.2.2.2.2.2.2.2.2.2.2.2.1.1
theorem mLay.k29 {h : zH} (L : mLay h) : iK h 103 0 := L.2.2.2.2.2.2.2.2.2.2.2.2.2.2.2.2.2.2.2.2.1.2.1
theorem mLay.n29 {h : zH} (L : mLay h) : aN h 103 = 120 := L.2.2.2.2.2.2.2.2.2.2.2.2.2.2.2.2.2.2.2.2.1.2.2
theorem mLay.r30 {h : zH} (L : mLay h) : gR h 84 30 = some 104 := L.2.2.2.2.2.2.2.2.2.2.2.2.2.2.2.2.2.2.2.2.2.1.1
theorem mLay.k30 {h : zH} (L : mLay h) : iK h 104 0 := L.2.2.2.2.2.2.2.2.2.2.2.2.2.2.2.2.2.2.2.2.2.1.2.1
theorem mLay.n30 {h : zH} (L : mLay h) : aN h 104 = 8 := L.2.2.2.2.2.2.2.2.2.2.2.2.2.2.2.2.2.2.2.2.2.1.2.2
theorem mLay.r31 {h : zH} (L : mLay h) : gR h 84 31 = some 105 := L.2.2.2.2.2.2.2.2.2.2.2.2.2.2.2.2.2.2.2.2.2.2.1.1
theorem mLay.k31 {h : zH} (L : mLay h) : iK h 105 0 := L.2.2.2.2.2.2.2.2.2.2.2.2.2.2.2.2.2.2.2.2.2.2.1.2.1
theorem mLay.n31 {h : zH} (L : mLay h) : aN h 105 = 8 := L.2.2.2.2.2.2.2.2.2.2.2.2.2.2.2.2.2.2.2.2.2.2.1.2.2
theorem mLay.r38 {h : zH} (L : mLay h) : gR h 84 38 = some 106 := L.2.2.2.2.2.2.2.2.2.2.2.2.2.2.2.2.2.2.2.2.2.2.2.1.1
theorem mLay.k38 {h : zH} (L : mLay h) : iK h 106 0 := L.2.2.2.2.2.2.2.2.2.2.2.2.2.2.2.2.2.2.2.2.2.2.2.1.2.1
theorem mLay.n38 {h : zH} (L : mLay h) : aN h 106 = 9 := L.2.2.2.2.2.2.2.2.2.2.2.2.2.2.2.2.2.2.2.2.2.2.2.1.2.2
theorem mLay.r39 {h : zH} (L : mLay h) : gR h 84 39 = some 107 := L.2.2.2.2.2.2.2.2.2.2.2.2.2.2.2.2.2.2.2.2.2.2.2.2.1.1
theorem mLay.k39 {h : zH} (L : mLay h) : iK h 107 0 := L.2.2.2.2.2.2.2.2.2.2.2.2.2.2.2.2.2.2.2.2.2.2.2.2.1.2.1
theorem mLay.n39 {h : zH} (L : mLay h) : aN h 107 = 120 := L.2.2.2.2.2.2.2.2.2.2.2.2.2.2.2.2.2.2.2.2.2.2.2.2.1.2.2
theorem mLay.r41 {h : zH} (L : mLay h) : gR h 84 41 = some 108 := L.2.2.2.2.2.2.2.2.2.2.2.2.2.2.2.2.2.2.2.2.2.2.2.2.2.1.1
theorem mLay.k41 {h : zH} (L : mLay h) : iK h 108 0 := L.2.2.2.2.2.2.2.2.2.2.2.2.2.2.2.2.2.2.2.2.2.2.2.2.2.1.2.1
theorem mLay.n41 {h : zH} (L : mLay h) : aN h 108 = 65536 := L.2.2.2.2.2.2.2.2.2.2.2.2.2.2.2.2.2.2.2.2.2.2.2.2.2.1.2.2
theorem mLay.r42 {h : zH} (L : mLay h) : gR h 84 42 = some 109 := L.2.2.2.2.2.2.2.2.2.2.2.2.2.2.2.2.2.2.2.2.2.2.2.2.2.2.1.1
theorem mLay.k42 {h : zH} (L : mLay h) : iK h 109 0 := L.2.2.2.2.2.2.2.2.2.2.2.2.2.2.2.2.2.2.2.2.2.2.2.2.2.2.1.2.1
theorem mLay.n42 {h : zH} (L : mLay h) : aN h 109 = 65536 := L.2.2.2.2.2.2.2.2.2.2.2.2.2.2.2.2.2.2.2.2.2.2.2.2.2.2.1.2.2
theorem mLay.r44 {h : zH} (L : mLay h) : gR h 84 44 = some 110 := L.2.2.2.2.2.2.2.2.2.2.2.2.2.2.2.2.2.2.2.2.2.2.2.2.2.2.2.1.1
theorem mLay.k44 {h : zH} (L : mLay h) : iK h 110 2 := L.2.2.2.2.2.2.2.2.2.2.2.2.2.2.2.2.2.2.2.2.2.2.2.2.2.2.2.1.2.1
theorem mLay.n44 {h : zH} (L : mLay h) : aN h 110 = 256 := L.2.2.2.2.2.2.2.2.2.2.2.2.2.2.2.2.2.2.2.2.2.2.2.2.2.2.2.1.2.2
theorem mLay.r45 {h : zH} (L : mLay h) : gR h 84 45 = some 111 := L.2.2.2.2.2.2.2.2.2.2.2.2.2.2.2.2.2.2.2.2.2.2.2.2.2.2.2.2.1.1
theorem mLay.k45 {h : zH} (L : mLay h) : iK h 111 0 := L.2.2.2.2.2.2.2.2.2.2.2.2.2.2.2.2.2.2.2.2.2.2.2.2.2.2.2.2.1.2.1
theorem mLay.n45 {h : zH} (L : mLay h) : aN h 111 = 8 := L.2.2.2.2.2.2.2.2.2.2.2.2.2.2.2.2.2.2.2.2.2.2.2.2.2.2.2.2.1.2.2
theorem mLay.r46 {h : zH} (L : mLay h) : gR h 84 46 = some 112 := L.2.2.2.2.2.2.2.2.2.2.2.2.2.2.2.2.2.2.2.2.2.2.2.2.2.2.2.2.2.1.1
theorem mLay.k46 {h : zH} (L : mLay h) : iK h 112 0 := L.2.2.2.2.2.2.2.2.2.2.2.2.2.2.2.2.2.2.2.2.2.2.2.2.2.2.2.2.2.1.2.1
theorem mLay.n46 {h : zH} (L : mLay h) : aN h 112 = 8 := L.2.2.2.2.2.2.2.2.2.2.2.2.2.2.2.2.2.2.2.2.2.2.2.2.2.2.2.2.2.1.2.2
theorem mLay.r47 {h : zH} (L : mLay h) : gR h 84 47 = some 113 := L.2.2.2.2.2.2.2.2.2.2.2.2.2.2.2.2.2.2.2.2.2.2.2.2.2.2.2.2.2.2.1.1
theorem mLay.k47 {h : zH} (L : mLay h) : iK h 113 0 := L.2.2.2.2.2.2.2.2.2.2.2.2.2.2.2.2.2.2.2.2.2.2.2.2.2.2.2.2.2.2.1.2.1
theorem mLay.n47 {h : zH} (L : mLay h) : aN h 113 = 8 := L.2.2.2.2.2.2.2.2.2.2.2.2.2.2.2.2.2.2.2.2.2.2.2.2.2.2.2.2.2.2.1.2.2
theorem mLay.r48 {h : zH} (L : mLay h) : gR h 84 48 = some 114 := L.2.2.2.2.2.2.2.2.2.2.2.2.2.2.2.2.2.2.2.2.2.2.2.2.2.2.2.2.2.2.2.1.1
theorem mLay.k48 {h : zH} (L : mLay h) : iK h 114 0 := L.2.2.2.2.2.2.2.2.2.2.2.2.2.2.2.2.2.2.2.2.2.2.2.2.2.2.2.2.2.2.2.1.2.1
theorem mLay.n48 {h : zH} (L : mLay h) : aN h 114 = 64 := L.2.2.2.2.2.2.2.2.2.2.2.2.2.2.2.2.2.2.2.2.2.2.2.2.2.2.2.2.2.2.2.1.2.2
theorem mLay.r49 {h : zH} (L : mLay h) : gR h 84 49 = some 115 := L.2.2.2.2.2.2.2.2.2.2.2.2.2.2.2.2.2.2.2.2.2.2.2.2.2.2.2.2.2.2.2.2.1.1
theorem mLay.k49 {h : zH} (L : mLay h) : iK h 115 0 := L.2.2.2.2.2.2.2.2.2.2.2.2.2.2.2.2.2.2.2.2.2.2.2.2.2.2.2.2.2.2.2.2.1.2.1
theorem mLay.n49 {h : zH} (L : mLay h) : aN h 115 = 64 := L.2.2.2.2.2.2.2.2.2.2.2.2.2.2.2.2.2.2.2.2.2.2.2.2.2.2.2.2.2.2.2.2.1.2.2
theorem mLay.r50 {h : zH} (L : mLay h) : gR h 84 50 = some 116 := L.2.2.2.2.2.2.2.2.2.2.2.2.2.2.2.2.2.2.2.2.2.2.2.2.2.2.2.2.2.2.2.2.2.1.1
theorem mLay.k50 {h : zH} (L : mLay h) : iK h 116 0 := L.2.2.2.2.2.2.2.2.2.2.2.2.2.2.2.2.2.2.2.2.2.2.2.2.2.2.2.2.2.2.2.2.2.1.2.1
theorem mLay.n50 {h : zH} (L : mLay h) : aN h 116 = 20 := L.2.2.2.2.2.2.2.2.2.2.2.2.2.2.2.2.2.2.2.2.2.2.2.2.2.2.2.2.2.2.2.2.2.1.2.2
theorem mLay.r51 {h : zH} (L : mLay h) : gR h 84 51 = some 117 := L.2.2.2.2.2.2.2.2.2.2.2.2.2.2.2.2.2.2.2.2.2.2.2.2.2.2.2.2.2.2.2.2.2.2.1.1
theorem mLay.k51 {h : zH} (L : mLay h) : iK h 117 0 := L.2.2.2.2.2.2.2.2.2.2.2.2.2.2.2.2.2.2.2.2.2.2.2.2.2.2.2.2.2.2.2.2.2.2.1.2.1
theorem mLay.n51 {h : zH} (L : mLay h) : aN h 117 = 20 := L.2.2.2.2.2.2.2.2.2.2.2.2.2.2.2.2.2.2.2.2.2.2.2.2.2.2.2.2.2.2.2.2.2.2.1.2.2
theorem mLay.r52 {h : zH} (L : mLay h) : gR h 84 52 = some 118 := L.2.2.2.2.2.2.2.2.2.2.2.2.2.2.2.2.2.2.2.2.2.2.2.2.2.2.2.2.2.2.2.2.2.2.2.1.1
theorem mLay.k52 {h : zH} (L : mLay h) : iK h 118 0 := L.2.2.2.2.2.2.2.2.2.2.2.2.2.2.2.2.2.2.2.2.2.2.2.2.2.2.2.2.2.2.2.2.2.2.2.1.2.1
theorem mLay.n52 {h : zH} (L : mLay h) : aN h 118 = 20 := L.2.2.2.2.2.2.2.2.2.2.2.2.2.2.2.2.2.2.2.2.2.2.2.2.2.2.2.2.2.2.2.2.2.2.2.1.2.2
theorem mLay.r53 {h : zH} (L : mLay h) : gR h 84 53 = some 119 := L.2.2.2.2.2.2.2.2.2.2.2.2.2.2.2.2.2.2.2.2.2.2.2.2.2.2.2.2.2.2.2.2.2.2.2.2.1.1
theorem mLay.k53 {h : zH} (L : mLay h) : iK h 119 0 := L.2.2.2.2.2.2.2.2.2.2.2.2.2.2.2.2.2.2.2.2.2.2.2.2.2.2.2.2.2.2.2.2.2.2.2.2.1.2.1
theorem mLay.n53 {h : zH} (L : mLay h) : aN h 119 = 20 := L.2.2.2.2.2.2.2.2.2.2.2.2.2.2.2.2.2.2.2.2.2.2.2.2.2.2.2.2.2.2.2.2.2.2.2.2.1.2.2
theorem mLay.r56 {h : zH} (L : mLay h) : gR h 84 56 = some 120 := L.2.2.2.2.2.2.2.2.2.2.2.2.2.2.2.2.2.2.2.2.2.2.2.2.2.2.2.2.2.2.2.2.2.2.2.2.2.1.1
theorem mLay.k56 {h : zH} (L : mLay h) : iK h 120 0 := L.2.2.2.2.2.2.2.2.2.2.2.2.2.2.2.2.2.2.2.2.2.2.2.2.2.2.2.2.2.2.2.2.2.2.2.2.2.1.2.1
theorem mLay.n56 {h : zH} (L : mLay h) : aN h 120 = 3 := L.2.2.2.2.2.2.2.2.2.2.2.2.2.2.2.2.2.2.2.2.2.2.2.2.2.2.2.2.2.2.2.2.2.2.2.2.2.1.2.2
theorem mLay.r57 {h : zH} (L : mLay h) : gR h 84 57 = some 121 := L.2.2.2.2.2.2.2.2.2.2.2.2.2.2.2.2.2.2.2.2.2.2.2.2.2.2.2.2.2.2.2.2.2.2.2.2.2.2.1.1
theorem mLay.k57 {h : zH} (L : mLay h) : iK h 121 0 := L.2.2.2.2.2.2.2.2.2.2.2.2.2.2.2.2.2.2.2.2.2.2.2.2.2.2.2.2.2.2.2.2.2.2.2.2.2.2.1.2.1
theorem mLay.n57 {h : zH} (L : mLay h) : aN h 121 = 24 := L.2.2.2.2.2.2.2.2.2.2.2.2.2.2.2.2.2.2.2.2.2.2.2.2.2.2.2.2.2.2.2.2.2.2.2.2.2.2.1.2.2
theorem mLay.r58 {h : zH} (L : mLay h) : gR h 84 58 = some 122 := L.2.2.2.2.2.2.2.2.2.2.2.2.2.2.2.2.2.2.2.2.2.2.2.2.2.2.2.2.2.2.2.2.2.2.2.2.2.2.2.1.1
theorem mLay.k58 {h : zH} (L : mLay h) : iK h 122 0 := L.2.2.2.2.2.2.2.2.2.2.2.2.2.2.2.2.2.2.2.2.2.2.2.2.2.2.2.2.2.2.2.2.2.2.2.2.2.2.2.1.2.1
theorem mLay.n58 {h : zH} (L : mLay h) : aN h 122 = 60 := L.2.2.2.2.2.2.2.2.2.2.2.2.2.2.2.2.2.2.2.2.2.2.2.2.2.2.2.2.2.2.2.2.2.2.2.2.2.2.2.1.2.2
theorem mLay.r59 {h : zH} (L : mLay h) : gR h 84 59 = some 123 := L.2.2.2.2.2.2.2.2.2.2.2.2.2.2.2.2.2.2.2.2.2.2.2.2.2.2.2.2.2.2.2.2.2.2.2.2.2.2.2.2.1.1
theorem mLay.k59 {h : zH} (L : mLay h) : iK h 123 0 := L.2.2.2.2.2.2.2.2.2.2.2.2.2.2.2.2.2.2.2.2.2.2.2.2.2.2.2.2.2.2.2.2.2.2.2.2.2.2.2.2.1.2.1
theorem mLay.n59 {h : zH} (L : mLay h) : aN h 123 = 60 := L.2.2.2.2.2.2.2.2.2.2.2.2.2.2.2.2.2.2.2.2.2.2.2.2.2.2.2.2.2.2.2.2.2.2.2.2.2.2.2.2.1.2.2
theorem mLay.r60 {h : zH} (L : mLay h) : gR h 84 60 = some 124 := L.2.2.2.2.2.2.2.2.2.2.2.2.2.2.2.2.2.2.2.2.2.2.2.2.2.2.2.2.2.2.2.2.2.2.2.2.2.2.2.2.2.1.1
theorem mLay.k60 {h : zH} (L : mLay h) : iK h 124 0 := L.2.2.2.2.2.2.2.2.2.2.2.2.2.2.2.2.2.2.2.2.2.2.2.2.2.2.2.2.2.2.2.2.2.2.2.2.2.2.2.2.2.1.2.1
theorem mLay.n60 {h : zH} (L : mLay h) : aN h 124 = 60 := L.2.2.2.2.2.2.2.2.2.2.2.2.2.2.2.2.2.2.2.2.2.2.2.2.2.2.2.2.2.2.2.2.2.2.2.2.2.2.2.2.2.1.2.2
theorem mLay.r61 {h : zH} (L : mLay h) : gR h 84 61 = some 125 := L.2.2.2.2.2.2.2.2.2.2.2.2.2.2.2.2.2.2.2.2.2.2.2.2.2.2.2.2.2.2.2.2.2.2.2.2.2.2.2.2.2.2.1
theorem mLay.k61 {h : zH} (L : mLay h) : iK h 125 0 := L.2.2.2.2.2.2.2.2.2.2.2.2.2.2.2.2.2.2.2.2.2.2.2.2.2.2.2.2.2.2.2.2.2.2.2.2.2.2.2.2.2.2.2.1
theorem mLay.n61 {h : zH} (L : mLay h) : aN h 125 = 60 := L.2.2.2.2.2.2.2.2.2.2.2.2.2.2.2.2.2.2.2.2.2.2.2.2.2.2.2.2.2.2.2.2.2.2.2.2.2.2.2.2.2.2.2.2
theorem mLay.fr {X : List Nat} {Y : List (Nat × Nat)} {h h' : zH} (L : mLay h) (F : fr X Y h h') (hY : mRefs.all (fun f => !(Y.contains (84, f))) = true) : mLay h' := by
  have g : ∀ f, f ∈ mRefs → gR h' 84 f = gR h 84 f := fun f hf => F.gr (fun z => by have := List.all_eq_true.mp hY f hf; simp [z] at this)
  exact ⟨F.o L.1, by rw [F.1.1]; exact L.2.1, ⟨(g 0 (by decide)).trans L.r0, F.ik L.k0, (F.n 85).trans L.n0⟩, ⟨(g 1 (by decide)).trans L.r1, F.ik L.k1, (F.n 86).trans L.n1⟩, ⟨(g 11 (by decide)).trans L.r11, F.ik L.k11, (F.n 87).trans L.n11⟩, ⟨(g 12 (by decide)).trans L.r12, F.ik L.k12, (F.n 88).trans L.n12⟩, ⟨(g 13 (by decide)).trans L.r13, F.ik L.k13, (F.n 89).trans L.n13⟩, ⟨(g 14 (by decide)).trans L.r14, F.ik L.k14, (F.n 90).trans L.n14⟩, ⟨(g 15 (by decide)).trans L.r15, F.lk L.k15, (F.n 91).trans L.n15⟩, ⟨(g 16 (by decide)).trans L.r16, F.lk L.k16, (F.n 92).trans L.n16⟩, ⟨(g 17 (by decide)).trans L.r17, F.lk L.k17, (F.n 93).trans L.n17⟩, ⟨(g 18 (by decide)).trans L.r18, F.ik L.k18, (F.n 94).trans L.n18⟩, ⟨(g 19 (by decide)).trans L.r19, F.ik L.k19, (F.n 95).trans L.n19⟩, ⟨(g 20 (by decide)).trans L.r20, F.ik L.k20, (F.n 96).trans L.n20⟩, ⟨(g 21 (by decide)).trans L.r21, F.ik L.k21, (F.n 97).trans L.n21⟩, ⟨(g 22 (by decide)).trans L.r22, F.ik L.k22, (F.n 98).trans L.n22⟩, ⟨(g 23 (by decide)).trans L.r23, F.ik L.k23, (F.n 99).trans L.n23⟩, ⟨(g 24 (by decide)).trans L.r24, F.ik L.k24, (F.n 100).trans L.n24⟩, ⟨(g 25 (by decide)).trans L.r25, F.ik L.k25, (F.n 101).trans L.n25⟩, ⟨(g 28 (by decide)).trans L.r28, F.ik L.k28, (F.n 102).trans L.n28⟩, ⟨(g 29 (by decide)).trans L.r29, F.ik L.k29, (F.n 103).trans L.n29⟩, ⟨(g 30 (by decide)).trans L.r30, F.ik L.k30, (F.n 104).trans L.n30⟩, ⟨(g 31 (by decide)).trans L.r31, F.ik L.k31, (F.n 105).trans L.n31⟩, ⟨(g 38 (by decide)).trans L.r38, F.ik L.k38, (F.n 106).trans L.n38⟩, ⟨(g 39 (by decide)).trans L.r39, F.ik L.k39, (F.n 107).trans L.n39⟩, ⟨(g 41 (by decide)).trans L.r41, F.ik L.k41, (F.n 108).trans L.n41⟩, ⟨(g 42 (by decide)).trans L.r42, F.ik L.k42, (F.n 109).trans L.n42⟩, ⟨(g 44 (by decide)).trans L.r44, F.ik L.k44, (F.n 110).trans L.n44⟩, ⟨(g 45 (by decide)).trans L.r45, F.ik L.k45, (F.n 111).trans L.n45⟩, ⟨(g 46 (by decide)).trans L.r46, F.ik L.k46, (F.n 112).trans L.n46⟩, ⟨(g 47 (by decide)).trans L.r47, F.ik L.k47, (F.n 113).trans L.n47⟩, ⟨(g 48 (by decide)).trans L.r48, F.ik L.k48, (F.n 114).trans L.n48⟩, ⟨(g 49 (by decide)).trans L.r49, F.ik L.k49, (F.n 115).trans L.n49⟩, ⟨(g 50 (by decide)).trans L.r50, F.ik L.k50, (F.n 116).trans L.n50⟩, ⟨(g 51 (by decide)).trans L.r51, F.ik L.k51, (F.n 117).trans L.n51⟩, ⟨(g 52 (by decide)).trans L.r52, F.ik L.k52, (F.n 118).trans L.n52⟩, ⟨(g 53 (by decide)).trans L.r53, F.ik L.k53, (F.n 119).trans L.n53⟩, ⟨(g 56 (by decide)).trans L.r56, F.ik L.k56, (F.n 120).trans L.n56⟩, ⟨(g 57 (by decide)).trans L.r57, F.ik L.k57, (F.n 121).trans L.n57⟩, ⟨(g 58 (by decide)).trans L.r58, F.ik L.k58, (F.n 122).trans L.n58⟩, ⟨(g 59 (by decide)).trans L.r59, F.ik L.k59, (F.n 123).trans L.n59⟩, ⟨(g 60 (by decide)).trans L.r60, F.ik L.k60, (F.n 124).trans L.n60⟩, ⟨(g 61 (by decide)).trans L.r61, F.ik L.k61, (F.n 125).trans L.n61⟩⟩

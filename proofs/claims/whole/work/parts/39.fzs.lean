/-! ===== frames where cells may be made: what is known stays ===== -/
section
variable {h h' : zH} {b t sp bl N ns V xv : Nat} {st wt mk : Nat → Nat} {X : List Nat} {Y : List (Nat × Nat)} {cn : Nat → Nat} {cd : Nat → Nat → Nat × Nat × Nat}
theorem mLay.fz (L : mLay h) (F : fz h.1 X Y h h') (hY : mRefs.all (fun f => !(Y.contains (84, f))) = true) : mLay h' := by
  have g : ∀ f, f ∈ mRefs → gR h' 84 f = gR h 84 f := fun f hf => F.gr L.1.1 (fun z => by have := List.all_eq_true.mp hY f hf; simp [z] at this)
  exact ⟨F.o L.1, Nat.le_trans L.2.1 F.1.2.1, ⟨(g 0 (by decide)).trans L.r0, F.ik L.k0, (F.n L.k0.1).trans L.n0⟩, ⟨(g 1 (by decide)).trans L.r1, F.ik L.k1, (F.n L.k1.1).trans L.n1⟩, ⟨(g 11 (by decide)).trans L.r11, F.ik L.k11, (F.n L.k11.1).trans L.n11⟩, ⟨(g 12 (by decide)).trans L.r12, F.ik L.k12, (F.n L.k12.1).trans L.n12⟩, ⟨(g 13 (by decide)).trans L.r13, F.ik L.k13, (F.n L.k13.1).trans L.n13⟩, ⟨(g 14 (by decide)).trans L.r14, F.ik L.k14, (F.n L.k14.1).trans L.n14⟩, ⟨(g 15 (by decide)).trans L.r15, F.lk L.k15, (F.n L.k15.1).trans L.n15⟩, ⟨(g 16 (by decide)).trans L.r16, F.lk L.k16, (F.n L.k16.1).trans L.n16⟩, ⟨(g 17 (by decide)).trans L.r17, F.lk L.k17, (F.n L.k17.1).trans L.n17⟩, ⟨(g 18 (by decide)).trans L.r18, F.ik L.k18, (F.n L.k18.1).trans L.n18⟩, ⟨(g 19 (by decide)).trans L.r19, F.ik L.k19, (F.n L.k19.1).trans L.n19⟩, ⟨(g 20 (by decide)).trans L.r20, F.ik L.k20, (F.n L.k20.1).trans L.n20⟩, ⟨(g 21 (by decide)).trans L.r21, F.ik L.k21, (F.n L.k21.1).trans L.n21⟩, ⟨(g 22 (by decide)).trans L.r22, F.ik L.k22, (F.n L.k22.1).trans L.n22⟩, ⟨(g 23 (by decide)).trans L.r23, F.ik L.k23, (F.n L.k23.1).trans L.n23⟩, ⟨(g 24 (by decide)).trans L.r24, F.ik L.k24, (F.n L.k24.1).trans L.n24⟩, ⟨(g 25 (by decide)).trans L.r25, F.ik L.k25, (F.n L.k25.1).trans L.n25⟩, ⟨(g 28 (by decide)).trans L.r28, F.ik L.k28, (F.n L.k28.1).trans L.n28⟩, ⟨(g 29 (by decide)).trans L.r29, F.ik L.k29, (F.n L.k29.1).trans L.n29⟩, ⟨(g 30 (by decide)).trans L.r30, F.ik L.k30, (F.n L.k30.1).trans L.n30⟩, ⟨(g 31 (by decide)).trans L.r31, F.ik L.k31, (F.n L.k31.1).trans L.n31⟩, ⟨(g 38 (by decide)).trans L.r38, F.ik L.k38, (F.n L.k38.1).trans L.n38⟩, ⟨(g 39 (by decide)).trans L.r39, F.ik L.k39, (F.n L.k39.1).trans L.n39⟩, ⟨(g 41 (by decide)).trans L.r41, F.ik L.k41, (F.n L.k41.1).trans L.n41⟩, ⟨(g 42 (by decide)).trans L.r42, F.ik L.k42, (F.n L.k42.1).trans L.n42⟩, ⟨(g 44 (by decide)).trans L.r44, F.ik L.k44, (F.n L.k44.1).trans L.n44⟩, ⟨(g 45 (by decide)).trans L.r45, F.ik L.k45, (F.n L.k45.1).trans L.n45⟩, ⟨(g 46 (by decide)).trans L.r46, F.ik L.k46, (F.n L.k46.1).trans L.n46⟩, ⟨(g 47 (by decide)).trans L.r47, F.ik L.k47, (F.n L.k47.1).trans L.n47⟩, ⟨(g 48 (by decide)).trans L.r48, F.ik L.k48, (F.n L.k48.1).trans L.n48⟩, ⟨(g 49 (by decide)).trans L.r49, F.ik L.k49, (F.n L.k49.1).trans L.n49⟩, ⟨(g 50 (by decide)).trans L.r50, F.ik L.k50, (F.n L.k50.1).trans L.n50⟩, ⟨(g 51 (by decide)).trans L.r51, F.ik L.k51, (F.n L.k51.1).trans L.n51⟩, ⟨(g 52 (by decide)).trans L.r52, F.ik L.k52, (F.n L.k52.1).trans L.n52⟩, ⟨(g 53 (by decide)).trans L.r53, F.ik L.k53, (F.n L.k53.1).trans L.n53⟩, ⟨(g 56 (by decide)).trans L.r56, F.ik L.k56, (F.n L.k56.1).trans L.n56⟩, ⟨(g 57 (by decide)).trans L.r57, F.ik L.k57, (F.n L.k57.1).trans L.n57⟩, ⟨(g 58 (by decide)).trans L.r58, F.ik L.k58, (F.n L.k58.1).trans L.n58⟩, ⟨(g 59 (by decide)).trans L.r59, F.ik L.k59, (F.n L.k59.1).trans L.n59⟩, ⟨(g 60 (by decide)).trans L.r60, F.ik L.k60, (F.n L.k60.1).trans L.n60⟩, ⟨(g 61 (by decide)).trans L.r61, F.ik L.k61, (F.n L.k61.1).trans L.n61⟩⟩
theorem mT.fz (M : mT h b N ns V st wt) (F : fz h.1 X Y h h') (hc : okM X Y = true) : mT h' b N ns V st wt := by
  obtain ⟨m1, m2, m3, m4, m5, m6, m7, m8, m9, m10⟩ := M
  simp only [okM, Bool.and_eq_true, List.all_cons, List.all_nil, and_true] at hc
  obtain ⟨⟨⟨c1, c2, c3, c4, c5⟩, c6⟩, c7⟩ := hc
  have l := m1.2.1
  refine ⟨m1.fz F c7, by rw [F.gi (by omega) (ni_of c6), m2], m3, by rw [F.i (by omega) (ni_of c1), m4], m5, by rw [F.i (by omega) (ni_of c2), m6], m7, by rw [F.i (by omega) (ni_of c3), m8], m9, fun v hv => ?_⟩
  rw [F.i (by omega) (ni_of c4), F.i (by omega) (ni_of c5)]
  exact m10 v hv
theorem mC.fz {p n : Nat} {c : Nat → Nat × Nat × Nat} (C : mC h p n c) (F : fz h.1 X Y h h') (l : 126 ≤ h.1) (hX : [97, 99, 100, 101].all (fun k => !(X.contains k)) = true) : mC h' p n c := by
  simp only [List.all_cons, List.all_nil, and_true, Bool.and_eq_true] at hX
  obtain ⟨c1, c2, c3, c4⟩ := hX
  unfold mC
  rw [F.i (by omega) (ni_of c1), F.i (by omega) (ni_of c2), F.i (by omega) (ni_of c3), F.i (by omega) (ni_of c4)]
  exact C
theorem mB.fz (B : mB h b V N cn cd) (F : fz h.1 X Y h h') (l : 126 ≤ h.1) (hX : [97, 99, 100, 101].all (fun k => !(X.contains k)) = true) : mB h' b V N cn cd := fun v hv => ⟨(B v hv).1.fz F l hX, (B v hv).2⟩
theorem mS.fz {f : (Nat → Nat) → Nat → Nat} (S : mS h N V f) (F : fz h.1 X Y h h') (l : 126 ≤ h.1) (hX : [108, 109].all (fun k => !(X.contains k)) = true) (hY : (84, 43) ∉ Y) : mS h' N V f := by
  simp only [List.all_cons, List.all_nil, and_true, Bool.and_eq_true] at hX
  unfold mS
  rw [F.gi (by omega) hY, F.i (by omega) (ni_of hX.1), F.i (by omega) (ni_of hX.2)]
  exact S
theorem cT.fz (T : cT h t N V st wt) (F : fz h.1 X Y h h') (hc : okT X Y t = true) : cT h' t N V st wt := by
  obtain ⟨t1, t2, t3, t4, t5, t6, t7, t8, t9⟩ := T
  simp only [okT, List.all_cons, List.all_nil, and_true, Bool.and_eq_true] at hc
  obtain ⟨⟨c1, c2⟩, c3, c4, c5, c6⟩ := hc
  refine ⟨t1, F.o t2, ⟨by rw [F.gr t2.1 (ni_of c3)]; exact t3.1, F.ik t3.2.1, by rw [F.n t3.2.1.1]; exact t3.2.2⟩, ⟨by rw [F.gr t2.1 (ni_of c4)]; exact t4.1, F.ik t4.2.1, by rw [F.n t4.2.1.1]; exact t4.2.2⟩, by rw [F.gi t2.1 (ni_of c5)]; exact t5, t6, by rw [F.gi t2.1 (ni_of c6)]; exact t7, t8, fun v hv => ?_⟩
  rw [F.i t3.2.1.1 (ni_of c1), F.i t4.2.1.1 (ni_of c2)]
  exact t9 v hv
theorem cSp.fz (S : cSp h sp) (F : fz h.1 X Y h h') (hY : (sp, 0) ∉ Y) : cSp h' sp := ⟨S.1, F.o S.2.1, by rw [F.gr S.2.1.1 hY]; exact S.2.2.1, F.ik S.2.2.2.1, by rw [F.n S.2.2.2.1.1]; exact S.2.2.2.2⟩
/-- rows R and R': the steps lie in neither -/
theorem cB.fz {n u : Nat} {R R' : List Nat} {c : Nat → Nat × Nat × Nat} (B : cB h R bl n c u) (F : fz h.1 X Y h h') (hX : ∀ k, k ∈ X → (k < 126 ∧ k ≠ 35) ∨ k ∈ R) (hY : ∀ q, q ∈ Y → q.1 < 126 ∧ q.1 ≠ 34) (hR : ∀ k, k ∈ R' → k ∈ R ∨ h.1 ≤ k) : cB h' R' bl n c u := by
  obtain ⟨b1, b2, b9, ⟨s, b3, b4, b0, b5, b6, b7, b8⟩, bv, bs, w1, w2, w3, w4, w5⟩ := B
  have hX' : s ∉ X := fun z => by
    rcases hX s z with y | y
    · omega
    · exact b0 y
  have hY' : ∀ f, (bl, f) ∉ Y := fun f z => by
    have := hY _ z
    simp at this
    omega
  have l := b5.1
  refine ⟨F.o b1, b2, by rw [F.gi b1.1 (hY' 1)]; exact b9, ⟨s, by rw [F.gr b1.1 (hY' 0)]; exact b3, b4, fun z => ?_, F.ik b5, by rw [F.n l]; exact b6, b7, fun i hi => ?_⟩, bv, bs, by rw [F.gi b1.1 (hY' 2)]; exact w1, w2, w3, by rw [F.gi b1.1 (hY' 3)]; exact w4, w5⟩
  · rcases hR s z with y | y
    · exact b0 y
    · omega
  · rw [F.i l hX']
    exact b8 i hi
theorem sm_e0 {f : Nat → Nat} : ∀ (d j : Nat), sm f j d = 0 → ∀ i, j ≤ i → i < j + d → f i = 0
  | 0, j, _, i, h1, h2 => by omega
  | d + 1, j, h, i, h1, h2 => by
    rw [sm] at h
    by_cases e : i = j
    · rw [e]; omega
    · exact sm_e0 d (j + 1) (by omega) i (by omega) (by omega)
theorem pcF_e0 {s : Nat} (hs : s < 2 ^ 31) : pcF s = 0 ↔ s = 0 := by
  constructor
  · intro e
    apply Nat.eq_of_testBit_eq
    intro i
    rw [Nat.zero_testBit]
    rcases Nat.lt_or_ge i 31 with z | z
    · have := sm_e0 31 0 e i (Nat.zero_le _) (by omega)
      cases hb : s.testBit i
      · rfl
      · rw [← tb] at hb
        rw [hb] at this; cases this
    · exact Nat.testBit_lt_two_pow (Nat.lt_of_lt_of_le hs (Nat.pow_le_pow_right (by decide) z))
  · intro e
    rw [e]; decide
end

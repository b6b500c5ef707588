/-! ===== frames of whole calls ===== -/
section
variable {h h' h1 h2 : zH} {C R : List Nat} {Y : List (Nat × Nat)} {k f a t t2 : Nat} {bs : Nat → Nat}
def fc (C : List Nat) (R : List Nat) (Y : List (Nat × Nat)) (h h' : zH) : Prop := ∃ X, fz h.1 X Y h h' ∧ ∀ k, k ∈ X → k ∈ C ∨ (126 ≤ k ∧ k ∈ R)
theorem fc_z {X : List Nat} (F : fz h.1 X Y h h') (hX : ∀ k, k ∈ X → k ∈ C ∨ (126 ≤ k ∧ k ∈ R)) : fc C R Y h h' := ⟨X, F, hX⟩
theorem fc_r {X : List Nat} {Y0 : List (Nat × Nat)} (F : fr X Y0 h h') (hX : X.all (fun k => C.contains k) = true) (hY : Y0.all (fun k => Y.contains k) = true) : fc C R Y h h' :=
  ⟨X, (F.z (Nat.le_refl _)).mo (Nat.le_refl _) (fun _ _ z => z) (fun q _ hq => List.contains_iff_mem.mp (List.all_eq_true.mp hY q hq)), fun k hk => Or.inl (List.contains_iff_mem.mp (List.all_eq_true.mp hX k hk))⟩
theorem fc.le (F : fc C R Y h h') : h.1 ≤ h'.1 ∧ h.2.1 ≤ h'.2.1 := by obtain ⟨X, G, -⟩ := F; exact ⟨G.1.2.1, G.1.2.2⟩
theorem fc_tr {R' : List Nat} (A : fc C R Y h h1) (B : fc C R' Y h1 h2) (hR : ∀ k, k ∈ R' → k ∈ R ∨ h.1 ≤ k) : fc C R Y h h2 := by
  obtain ⟨X1, G1, e1⟩ := A
  obtain ⟨X2, G2, e2⟩ := B
  have m := G1.1.2.1
  refine ⟨X1 ++ X2.filter (fun k => decide (k < h.1)), (G1.mo (Nat.le_refl _) (fun k _ z => List.mem_append_left _ z) (fun _ _ z => z)).tr (G2.mo m (fun k hk z => List.mem_append_right _ (List.mem_filter.mpr ⟨z, by simpa using hk⟩)) (fun _ _ z => z)), fun k hk => ?_⟩
  rcases List.mem_append.mp hk with z | z
  · exact e1 k z
  · obtain ⟨z1, z2⟩ := List.mem_filter.mp z
    have z3 : k < h.1 := by simpa using z2
    rcases e2 k z1 with y | ⟨y, w⟩
    · exact Or.inl y
    · rcases hR k w with v | v
      · exact Or.inr ⟨y, v⟩
      · omega
theorem fc_mo2 {C' R' : List Nat} {Y' : List (Nat × Nat)} (A : fc C R Y h h') (hC : C.all (fun k => C'.contains k) = true) (hY : Y.all (fun k => Y'.contains k) = true) (hR : ∀ k, k ∈ R → k ∈ R') : fc C' R' Y' h h' := by
  obtain ⟨X1, G1, e1⟩ := A
  refine ⟨X1, G1.mo (Nat.le_refl _) (fun _ _ z => z) (fun q _ hq => List.contains_iff_mem.mp (List.all_eq_true.mp hY q hq)), fun k hk => ?_⟩
  rcases e1 k hk with y | ⟨y, w⟩
  · exact Or.inl (List.contains_iff_mem.mp (List.all_eq_true.mp hC k y))
  · exact Or.inr ⟨y, hR k w⟩
theorem fc.i (F : fc C R Y h h') (l : 126 ≤ h.1) (hk : k < 126) (hc : k ∉ C) : aI h' k = aI h k := by
  obtain ⟨X, G, e⟩ := F
  exact G.i (by omega) (fun z => (e k z).elim hc (fun y => absurd y.1 (by omega)))
theorem fc.l (F : fc C R Y h h') (l : 126 ≤ h.1) (hk : k < 126) (hc : k ∉ C) : aL h' k = aL h k := by
  obtain ⟨X, G, e⟩ := F
  exact G.l (by omega) (fun z => (e k z).elim hc (fun y => absurd y.1 (by omega)))
theorem fc.r (F : fc C R Y h h') (l : 126 ≤ h.1) (hk : k < 126) (hc : k ∉ C) : aR h' k = aR h k := by
  obtain ⟨X, G, e⟩ := F
  exact G.r (by omega) (fun z => (e k z).elim hc (fun y => absurd y.1 (by omega)))
theorem fc.n (F : fc C R Y h h') (hk : k < h.1) : aN h' k = aN h k := by obtain ⟨X, G, e⟩ := F; exact G.n hk
theorem fc.gi (F : fc C R Y h h') (l : 126 ≤ h.1) (hk : k < 126) (hc : (k, f) ∉ Y) : gI h' k f = gI h k f := by obtain ⟨X, G, e⟩ := F; exact G.gi (by omega) hc
theorem fc.gr (F : fc C R Y h h') (l : 126 ≤ h.1) (hk : k < 126) (hc : (k, f) ∉ Y) : gR h' k f = gR h k f := by obtain ⟨X, G, e⟩ := F; exact G.gr (by omega) hc
theorem fc.o (F : fc C R Y h h') {c : Nat} (z : oK h k c) : oK h' k c := by obtain ⟨X, G, e⟩ := F; exact G.o z
theorem fc.ik (F : fc C R Y h h') {c : Nat} (z : iK h k c) : iK h' k c := by obtain ⟨X, G, e⟩ := F; exact G.ik z
theorem fc.lk (F : fc C R Y h h') (z : lK h k) : lK h' k := by obtain ⟨X, G, e⟩ := F; exact G.lk z
theorem fc.rk (F : fc C R Y h h') {c : Nat} (z : rK h k c) : rK h' k c := by obtain ⟨X, G, e⟩ := F; exact G.rk z
/-! groups -/
theorem cOb_fc (O : cOb h t t2) (F : fc C R Y h h') (hY : [0, 1, 2, 3, 4, 5, 6, 7, 8, 9, 10, 11].all (fun f => !(Y.contains (0, f))) = true) : cOb h' t t2 := by
  obtain ⟨X, G, e⟩ := F
  exact O.fz G (by have := O.1.1; omega) hY
theorem cOs_fc (O : cOs h) (F : fc C R Y h h') : cOs h' := by obtain ⟨X, G, e⟩ := F; exact O.fz G
theorem cSp_fc {sp : Nat} (S : cSp h sp) (F : fc C R Y h h') (l : 126 ≤ h.1) (hY : (!(Y.contains (sp, 0))) = true) : cSp h' sp := by
  obtain ⟨a1, a2, a3, a4, a5⟩ := S
  exact ⟨a1, F.o a2, by rw [F.gr l (by omega) (ni_of hY)]; exact a3, F.ik a4, by rw [F.n (by omega)]; exact a5⟩
theorem cOl_fc (S : cOl h) (F : fc C R Y h h') (l : 126 ≤ h.1) (hY : (!(Y.contains (19, 0))) = true) : cOl h' := by
  obtain ⟨a2, a3, a4, a5⟩ := S
  exact ⟨F.o a2, by rw [F.gr l (by omega) (ni_of hY)]; exact a3, F.ik a4, by rw [F.n (by omega)]; exact a5⟩
theorem cSl_fc (S : cSl h) (F : fc C R Y h h') (l : 126 ≤ h.1) (hY : [0, 1, 2].all (fun f => !(Y.contains (21, f))) = true) : cSl h' := by
  simp only [List.all_cons, List.all_nil, and_true, Bool.and_eq_true] at hY
  obtain ⟨y0, y1, y2⟩ := hY
  obtain ⟨a, ⟨a3, a4, a5⟩, ⟨b3, b4, b5⟩, c3, c4, c5⟩ := S
  exact ⟨F.o a, ⟨by rw [F.gr l (by omega) (ni_of y0)]; exact a3, F.ik a4, by rw [F.n (by omega)]; exact a5⟩, ⟨by rw [F.gr l (by omega) (ni_of y1)]; exact b3, F.ik b4, by rw [F.n (by omega)]; exact b5⟩, by rw [F.gr l (by omega) (ni_of y2)]; exact c3, F.ik c4, by rw [F.n (by omega)]; exact c5⟩
/-- the blank ballot -/
def cBk (h : zH) : Prop := oK h 34 0 ∧ (gR h 34 0 = some 35 ∧ iK h 35 0 ∧ aN h 35 = 0) ∧ gI h 34 1 = 0 ∧ gI h 34 2 = 0 ∧ gI h 34 3 = 0
/-- the wider town, the blank ballot -/
def cTlk (h : zH) : Prop := cTl h 26 ∧ cBk h
theorem cTl_fc (S : cTlk h) (F : fc C R Y h h') (l : 126 ≤ h.1) (hY : ([3, 4].all (fun f => !(Y.contains (26, f))) && [0, 1, 2, 3].all (fun f => !(Y.contains (34, f)))) = true) : cTlk h' := by
  simp only [List.all_cons, List.all_nil, and_true, Bool.and_eq_true] at hY
  obtain ⟨⟨y0, y1⟩, z0, z1, z2, z3⟩ := hY
  obtain ⟨⟨a, ⟨a3, a4, a5⟩, b3, b4, b5⟩, e, ⟨e1, e2, e3⟩, e4, e5, e6⟩ := S
  exact ⟨⟨F.o a, ⟨by rw [F.gr l (by omega) (ni_of y0)]; exact a3, F.ik a4, by rw [F.n (by omega)]; exact a5⟩, by rw [F.gr l (by omega) (ni_of y1)]; exact b3, F.ik b4, by rw [F.n (by omega)]; exact b5⟩, F.o e, ⟨by rw [F.gr l (by omega) (ni_of z0)]; exact e1, F.ik e2, by rw [F.n (by omega)]; exact e3⟩, by rw [F.gi l (by omega) (ni_of z1)]; exact e4, by rw [F.gi l (by omega) (ni_of z2)]; exact e5, by rw [F.gi l (by omega) (ni_of z3)]; exact e6⟩
theorem cBk_B {R : List Nat} (S : cBk h) (hR : 35 ∉ R) : cB h R 34 0 c00 0 := by
  obtain ⟨e, ⟨e1, e2, e3⟩, e4, e5, e6⟩ := S
  exact ⟨e, Or.inl rfl, e4, ⟨35, e1, Or.inl rfl, hR, e2, e3, by decide, fun i hi => absurd hi (Nat.not_lt_zero i)⟩, 0, 0, e5, by decide, fun v => by rw [Nat.zero_testBit]; rfl, e6, by decide, fun v => by rw [Nat.zero_testBit]; rfl⟩
theorem cBxR_fc (S : cBxR h) (F : fc C R Y h h') (l : 126 ≤ h.1) (hC : (!(C.contains 42)) = true) (hY : (!(Y.contains (0, 9))) = true) : cBxR h' := by
  obtain ⟨a1, a2, a3, a4, a5⟩ := S
  exact ⟨F.o a1, by rw [F.gr l (by omega) (ni_of hY)]; exact a2, F.rk a3, by rw [F.n (by omega)]; exact a4, fun k hk => by rw [F.r l (by omega) (ni_of hC)]; exact a5 k hk⟩
theorem cRr_fc (L : cRr h) (F : fc C R Y h h') (l : 126 ≤ h.1) (hC : (!(C.contains 4)) = true) (hY : [(1, 0), (1, 1), (1, 2), (2, 0), (2, 1), (2, 2), (2, 3), (2, 4)].all (fun f => !(Y.contains f)) = true) : cRr h' := by
  simp only [List.all_cons, List.all_nil, and_true, Bool.and_eq_true] at hY
  obtain ⟨z0, z1, z2, y0, y1, y2, y3, y4⟩ := hY
  obtain ⟨a1, a2, ⟨a3, a4, a5⟩, ⟨a6, a7, a8⟩, ⟨b1, b2, b3, b4⟩, ⟨b5, b6, b7, b8⟩, ⟨c1, c2, c3⟩, ⟨c4, c5, c6⟩, ⟨c7, c8, c9⟩⟩ := L
  exact ⟨F.o a1, by rw [F.gr l (by omega) (ni_of z0)]; exact a2, ⟨by rw [F.gr l (by omega) (ni_of z1)]; exact a3, F.ik a4, by rw [F.n (by omega)]; exact a5⟩, ⟨by rw [F.gr l (by omega) (ni_of z2)]; exact a6, F.ik a7, by rw [F.n (by omega)]; exact a8⟩, ⟨F.o b1, by rw [F.gr l (by omega) (ni_of y0)]; exact b2, F.ik b3, by rw [F.n (by omega)]; exact b4⟩, ⟨by rw [F.gr l (by omega) (ni_of y1)]; exact b5, F.lk b6, by rw [F.n (by omega)]; exact b7, fun k hk => by rw [F.l l (by omega) (ni_of hC)]; exact b8 k hk⟩, ⟨by rw [F.gr l (by omega) (ni_of y2)]; exact c1, F.ik c2, by rw [F.n (by omega)]; exact c3⟩, ⟨by rw [F.gr l (by omega) (ni_of y3)]; exact c4, F.ik c5, by rw [F.n (by omega)]; exact c6⟩, by rw [F.gr l (by omega) (ni_of y4)]; exact c7, F.lk c8, by rw [F.n (by omega)]; exact c9⟩
theorem cTp_fc {n : Nat} (T : cTp h n bs) (F : fc C R Y h h') (l : 126 ≤ h.1) (hC : (!(C.contains 3)) = true) (hY : (!(Y.contains (2, 5))) = true) : cTp h' n bs :=
  ⟨by rw [F.gi l (by omega) (ni_of hY)]; exact T.1, T.2.1, fun i hi => by rw [F.i l (by omega) (ni_of hC)]; exact T.2.2 i hi⟩
theorem cHl_fc {HL : List zHd} (A : cHl h a HL) (F : fc C R Y h h') (l : 126 ≤ h.1) (ha : a + 5 ≤ 126) (hC : [1, 2, 3, 4].all (fun k => !(C.contains (a + k))) = true) (hY : [0, 1, 2, 3, 4].all (fun f => !(Y.contains (a, f))) = true) : cHl h' a HL := by
  simp only [List.all_cons, List.all_nil, and_true, Bool.and_eq_true] at hY hC
  obtain ⟨y0, y1, y2, y3, y4⟩ := hY
  obtain ⟨x1, x2, x3, x4⟩ := hC
  obtain ⟨a1, ⟨a2, a3, a4, a5⟩, a6, a7, a8⟩ := A
  refine ⟨F.o a1, ⟨by rw [F.gr l (by omega) (ni_of y0)]; exact a2, by rw [F.gr l (by omega) (ni_of y1)]; exact a3, by rw [F.gr l (by omega) (ni_of y2)]; exact a4, by rw [F.gr l (by omega) (ni_of y3)]; exact a5⟩, fun k hk => ⟨F.ik (a6 k hk).1, by rw [F.n (by omega)]; exact (a6 k hk).2⟩, by rw [F.gi l (by omega) (ni_of y4)]; exact a7, fun n q z => ?_⟩
  have e1 : aI h' (a + 1) = aI h (a + 1) := F.i l (by omega) (ni_of x1)
  have e2 : aI h' (a + 1 + 1) = aI h (a + 1 + 1) := F.i l (by omega) (ni_of x2)
  have e3 : aI h' (a + 1 + 2) = aI h (a + 1 + 2) := F.i l (by omega) (ni_of x3)
  have e4 : aI h' (a + 1 + 3) = aI h (a + 1 + 3) := F.i l (by omega) (ni_of x4)
  rw [e1, e2, e3, e4]
  exact a8 n q z
theorem cEn_fc {o : Nat → Option Nat} (A : cEn h a o) (F : fc C R Y h h') (l : 126 ≤ h.1) (ha : a + 5 ≤ 126) (hC : (!(C.contains (a + 3))) = true) (hY : [0, 1, 2].all (fun f => !(Y.contains (a, f))) = true) : cEn h' a o := by
  simp only [List.all_cons, List.all_nil, and_true, Bool.and_eq_true] at hY
  obtain ⟨y0, y1, y2⟩ := hY
  obtain ⟨e1, e2, e3, ⟨e4, e5⟩, e6, e7⟩ := A
  exact ⟨F.o e1, by rw [F.gr l (by omega) (ni_of y0)]; exact e2, by rw [F.gr l (by omega) (ni_of y1)]; exact e3, ⟨F.rk e4, by rw [F.n (by omega)]; exact e5⟩, by rw [F.gr l (by omega) (ni_of y2)]; exact e6, fun v hv => by rw [F.r l (by omega) (ni_of hC)]; exact e7 v hv⟩
theorem cTo_fc (T : cTo h t) (F : fc C R Y h h') (l : 126 ≤ h.1) (ht : t + 7 ≤ 126) (nY : ∀ f, f < 6 → (t, f) ∉ Y) : cTo h' t := by
  obtain ⟨w0, ⟨p1, p2, p3⟩, ⟨b1, b2, b3⟩, ⟨c1, c2, c3⟩, ⟨d1, d2, d3⟩, ⟨e1, e2, e3⟩, f1, f2, f3⟩ := T
  refine ⟨F.o w0, ⟨?_, F.lk p2, ?_⟩, ⟨?_, F.lk b2, ?_⟩, ⟨?_, F.lk c2, ?_⟩, ⟨?_, F.ik d2, ?_⟩, ⟨?_, F.ik e2, ?_⟩, ?_, F.rk f2, ?_⟩
  all_goals first | rw [F.gr l (by omega) (nY _ (by omega))]; assumption | rw [F.n (by omega)]; assumption
/-- the town in use and the spare one -/
def cTn (h : zH) (t t2 : Nat) (K : zKs) (st wt : Nat → Nat) (told : Nat → Bool) : Prop := cT h t K.1.1 K.2.2.1 st wt ∧ cKy h t K ∧ (cTo h t2 ∧ cTo h t) ∧ ∃ tb, gI h t 9 = nI tb ∧ tb < 256 ∧ ∀ v, tb.testBit v = told v
theorem cTn_fc {K : zKs} {st wt : Nat → Nat} {told : Nat → Bool} (A : cTn h t t2 K st wt told) (ht : (t = 70 ∧ t2 = 77) ∨ (t = 77 ∧ t2 = 70)) (F : fc C R Y h h') (l : 126 ≤ h.1) (hC : C.all (fun k => decide (k < 70 ∨ 84 ≤ k)) = true) (hY : Y.all (fun q => decide (q.1 < 70 ∨ 84 ≤ q.1)) = true) : cTn h' t t2 K st wt told := by
  have nC : ∀ k, 70 ≤ k → k < 84 → k ∉ C := fun k h1 h2 z => by have := List.all_eq_true.mp hC k z; simp at this; omega
  have nY : ∀ k f, 70 ≤ k → k < 84 → (k, f) ∉ Y := fun k f h1 h2 z => by have := List.all_eq_true.mp hY (k, f) z; simp at this; omega
  have tb : (70 ≤ t ∧ t + 7 ≤ 84) ∧ 70 ≤ t2 ∧ t2 + 7 ≤ 84 := by omega
  obtain ⟨⟨a1, a2, ⟨a3, a4, a5⟩, ⟨a6, a7, a8⟩, a9, a10, a11, a12, a13⟩, ⟨k0, ⟨k1, k2, k3, k4, k5⟩, ⟨l1, l2, l3, l4, l5⟩, m1, m2, m3, m4, m5⟩, ⟨T2, T1⟩, tbb, g1, g2, g3⟩ := A
  refine ⟨⟨a1, F.o a2, ⟨by rw [F.gr l (by omega) (nY _ _ (by omega) (by omega))]; exact a3, F.ik a4, by rw [F.n (by omega)]; exact a5⟩, ⟨by rw [F.gr l (by omega) (nY _ _ (by omega) (by omega))]; exact a6, F.ik a7, by rw [F.n (by omega)]; exact a8⟩, by rw [F.gi l (by omega) (nY _ _ (by omega) (by omega))]; exact a9, a10, by rw [F.gi l (by omega) (nY _ _ (by omega) (by omega))]; exact a11, a12, fun v hv => by rw [F.i l (by omega) (nC _ (by omega) (by omega)), F.i l (k := t + 5) (by omega) (nC _ (by omega) (by omega))]; exact a13 v hv⟩, ⟨F.o k0, ⟨?_, F.lk k2, ?_, ?_, fun j hj => ?_⟩, ⟨?_, F.lk l2, ?_, ?_, fun j hj => ?_⟩, ?_, F.lk m2, ?_, ?_, fun j hj => ?_⟩, ⟨cTo_fc T2 F l (by omega) (fun f _ => nY _ _ (by omega) (by omega)), cTo_fc T1 F l (by omega) (fun f _ => nY _ _ (by omega) (by omega))⟩, tbb, ?_, g2, g3⟩
  all_goals first | rw [F.gr l (by omega) (nY _ _ (by omega) (by omega))]; assumption | rw [F.gi l (by omega) (nY _ _ (by omega) (by omega))]; assumption | rw [F.n (by omega)]; assumption | (rw [F.l l (by omega) (nC _ (by omega) (by omega))]; first | exact k5 j hj | exact l5 j hj | exact m5 j hj)
end

/-! ===== the class: rows made fresh ===== -/
section
variable {h h' : zH} {t N V a : Nat} {st wt mk : Nat → Nat} {Q : Option Value → zH → Prop} {X : List Nat} {Y : List (Nat × Nat)} {f : (Nat → Nat) → Nat → Nat} {o : Nat → Option Nat} {cn : Nat → Nat} {cd : Nat → Nat → Nat × Nat × Nat} {cu : Nat → Nat}
/-- Earnest a with ballots o -/
def cEn (h : zH) (a : Nat) (o : Nat → Option Nat) : Prop := oK h a 1 ∧ gR h a 0 = some (a + 1) ∧ gR h a 1 = some (a + 3) ∧ (rK h (a + 3) 0 ∧ aN h (a + 3) = 8) ∧ gR h a 2 = some (a + 4) ∧ ∀ v, v < 8 → aR h (a + 3) v = o v
theorem cEn.fz (E : cEn h a o) (F : fz h.1 X Y h h') (hX : a + 3 ∉ X) (h0 : (a, 0) ∉ Y) (h1 : (a, 1) ∉ Y) (h2 : (a, 2) ∉ Y) : cEn h' a o := by
  obtain ⟨e1, e2, e3, ⟨e4, e5⟩, e6, e7⟩ := E
  exact ⟨F.o e1, by rw [F.gr e1.1 h0]; exact e2, by rw [F.gr e1.1 h1]; exact e3, ⟨F.rk e4, by rw [F.n e4.1]; exact e5⟩, by rw [F.gr e1.1 h2]; exact e6, fun v hv => by rw [F.r e4.1 hX]; exact e7 v hv⟩
theorem s1_ballotOf {v : Nat} (E : cEn h 33 o) (hv : v < 8) (H : Q (some (zr (some ((o v).getD 34)))) h) : zC mX1_ballotOf [.ref 33, .int (nI v)] h Q := by
  obtain ⟨e1, e2, e3, ⟨e4, e5⟩, e6, e7⟩ := E
  have cl : (nI v).toNatClampNeg = v := nI_clamp (by omega)
  have go26 : o v = none → zX mX1_ballotOf 26 [.ref 33, .int (nI v), .float 0] [] h Q := fun q =>
    bX1_ballotOf_26 _ _ _ _ (br_t rfl ⟨e1, _, e2, by rw [q] at H; exact H⟩)
  refine nX1_ballotOf _ _ _ _ (bX1_ballotOf_0 _ _ _ _ (br_f (nI_pos (by omega)) ⟨e1, _, e3, e4, br_f (by rw [e5]; exact nI_ge (by omega) (by decide)) ⟨by rw [e5]; exact vp_in_nI hv (by decide), ?_⟩⟩))
  rw [cl, e7 v hv]
  refine ⟨go26, fun q => br_f (by decide +kernel) ⟨by rw [e5]; exact vp_in_nI hv (by decide), ?_⟩⟩
  cases hq : o v with
  | none => exact absurd hq q
  | some b => rw [hq] at H; exact H
/-- how the rows are laid out -/
def cRl (h : zH) (sc tc nc : Nat) : Prop := (oK h 12 5 ∧ gR h 12 0 = some 13 ∧ gR h 12 1 = some 15 ∧ iK h 15 0 ∧ aN h 15 = 256) ∧
  (gR h 12 2 = some sc ∧ iK h sc 0 ∧ (sc = 16 ∨ 126 ≤ sc) ∧ ∃ k, k ≤ 8 ∧ aN h sc = 4 ^ k) ∧ (gR h 12 3 = some tc ∧ iK h tc 0 ∧ (tc = 17 ∨ 126 ≤ tc) ∧ aN h tc ≤ 131072) ∧ (gR h 12 4 = some nc ∧ iK h nc 0 ∧ (nc = 18 ∨ 126 ≤ nc) ∧ aN h nc ≤ 131072) ∧ sc ≠ tc ∧ sc ≠ nc ∧ tc ≠ nc
/-- what is laid of the ballots that aren't stale -/
def cRd (h : zH) (sc N V : Nat) (f : (Nat → Nat) → Nat → Nat) (S : Nat) : Prop := gI h 12 7 = nI S ∧ S < 256 ∧ (S = 255 ∨ (4 ^ V ≤ aN h sc ∧ ∃ d, sdR h sc N V d ∧ ∀ r, r < 4 ^ V → cbB N V r = true → ∀ v, v < V → S.testBit v = false → d r v = f (dg 4 V r) v))
def kp0 (N V : Nat) (f : (Nat → Nat) → Nat → Nat) (s : Nat) : Prop := ∃ r, r < 4 ^ V ∧ cbB N V r = true ∧ kpV V (f (dg 4 V r)) (dg 4 V r) = s
/-- the lists -/
def cRf (h : zH) (sc tc nc N V : Nat) (st wt : Nat → Nat) (f : (Nat → Nat) → Nat → Nat) : Prop := (4 ^ V ≤ aN h sc ∧ sdR h sc N V (fun r => f (dg 4 V r))) ∧ (gI h 12 5 = nI (slN N V f (4 ^ V)).length ∧ lsR (aI h tc) (slN N V f (4 ^ V)) ∧ (slN N V f (4 ^ V)).length ≤ aN h tc) ∧ (gI h 12 6 = nI (nlN N V f (4 ^ V)).length ∧ lsR (aI h nc) ((nlN N V f (4 ^ V)).map (nrE N V st wt)) ∧ (nlN N V f (4 ^ V)).length ≤ aN h nc) ∧
  ∀ s, s < 256 → (aI h 15 s = 1 ∧ dnC (kp0 N V f) s) ∨ (aI h 15 s = 0 ∧ ¬ dnC (kp0 N V f) s)
def XW (sc tc nc : Nat) : List Nat := [14, 15, sc, tc, nc]
def YW : List (Nat × Nat) := [(13, 1), (12, 2), (12, 3), (12, 4), (12, 5), (12, 6), (12, 7), (12, 8)]
theorem sdR.eq {sc : Nat} {d d' : Nat → Nat → Nat} (D : sdR h sc N V d) (e : ∀ r, r < 4 ^ V → cbB N V r = true → ∀ v, v < V → d r v = d' r v) : sdR h sc N V d' := fun r hr hc => by
  have := D r hr hc
  refine ⟨by rw [this.1, en_congr (fun v hv => e r hr hc v hv)], fun v hv => by rw [← e r hr hc v hv]; exact this.2 v hv⟩
theorem okT_rows {sc tc nc t : Nat} (L : cRl h sc tc nc) (ht : t = 26 ∨ t = 70 ∨ t = 77) : okT (XW sc tc nc) YW t = true := by
  obtain ⟨-, ⟨-, -, c1, -⟩, ⟨-, -, c2, -⟩, ⟨-, -, c3, -⟩, -⟩ := L
  simp only [okT, XW, YW, List.all_cons, List.all_nil, and_true, Bool.and_eq_true, Bool.not_eq_true', List.contains_eq_mem, decide_eq_false_iff_not, List.mem_cons, List.not_mem_nil, or_false, Bool.and_true, Prod.mk.injEq]
  rcases ht with rfl | rfl | rfl <;> simp <;> omega
theorem okT_mo {X' : List Nat} {Y' : List (Nat × Nat)} {t : Nat} (hc : okT X Y t = true) (hX : ∀ k, k ∈ X' → k ∈ X) (hY : ∀ q, q ∈ Y' → q ∈ Y) : okT X' Y' t = true := by
  simp only [okT, List.all_cons, List.all_nil, and_true, Bool.and_eq_true, Bool.not_eq_true', List.contains_eq_mem, decide_eq_false_iff_not, Bool.and_true] at hc ⊢
  obtain ⟨⟨c1, c2⟩, c3, c4, c5, c6⟩ := hc
  exact ⟨⟨fun z => c1 (hX _ z), fun z => c2 (hX _ z)⟩, fun z => c3 (hY _ z), fun z => c4 (hY _ z), fun z => c5 (hY _ z), fun z => c6 (hY _ z)⟩
theorem l5_refresh64 {sc tc nc S0 : Nat} {R : List Nat} {d : Nat → Nat → Nat} (T : cT h t N V st wt) (S13 : cSp h 13) (E : cEn h 33 o) (L : cRl h sc tc nc) (hf : ∀ mk v, v < V → f mk v = sayF V N st wt mk v (cn v) (cd v))
    (Bs : ∀ v, v < V → cB h R ((o v).getD 34) (cn v) (cd v) (cu v) ∧ okC V N v (cn v) (cd v)) (hR : sc ∈ R) (hmin : 126 ≤ h.1) (e7 : gI h 12 7 = nI S0) (hS : S0 < 256) (hsz : 4 ^ V ≤ aN h sc) (D : sdR h sc N V d) (dS : ∀ r, r < 4 ^ V → cbB N V r = true → ∀ v, v < V → S0.testBit v = false → d r v = f (dg 4 V r) v)
    (H : ∀ h' tc' nc', fz h.1 (XW sc tc nc) YW h h' → cRl h' sc tc' nc' → cRd h' sc N V f 0 → gI h' 12 8 = 1 → cRf h' sc tc' nc' N V st wt f → (tc' = tc ∨ h.1 ≤ tc') → (nc' = nc ∨ h.1 ≤ nc') → h'.1 ≤ h.1 + 2 → h'.2.1 + 2 * (aN h tc + aN h nc) ≤ h.2.1 + 2 * (aN h' tc' + aN h' nc') → Q none h') :
    zX mX5_refresh 64 [.ref 12, .ref t, .ref 33, .int (nI (4 ^ V)), .int 0] [] h Q := by
  have hV := T.V8
  have hN := T.N3
  have p4 : 4 ^ V ≤ 65536 := Nat.le_trans (Nat.pow_le_pow_right (by decide) hV) (by decide)
  have okt := okT_rows L T.1
  have L0 := L
  obtain ⟨⟨o12, r0, r1, k15, n15⟩, ⟨r2, k2, c2, kk, hkk, n2⟩, ⟨r3, k3, c3, n3⟩, ⟨r4, k4, c4, n4⟩, d1, d2, d3⟩ := L
  have n65 : aN h sc ≤ 65536 := by rw [n2]; exact Nat.le_trans (Nat.pow_le_pow_right (by decide) hkk) (by decide)
  have main : ∀ (k j : Nat) (h0 : zH) (d0 : Nat → Nat → Nat), j + k = V → fr [14, sc] [(13, 1)] h h0 → sdR h0 sc N V d0 → (∀ r, r < 4 ^ V → cbB N V r = true → ∀ v, v < V → (v < j ∨ S0.testBit v = false) → d0 r v = f (dg 4 V r) v) → zX mX5_refresh 64 [.ref 12, .ref t, .ref 33, .int (nI (4 ^ V)), .int (nI j)] [] h0 Q := by
    intro k
    induction k with
    | zero =>
      intro j h0 d0 hj F D0 e0
      have : j = V := by omega
      subst this
      have T0 := T.fz (F.z (Nat.le_refl _)) (okT_mo okt (by simp [XW]) (by simp [YW]))
      have D1 : sdR h0 sc N j (fun r => f (dg 4 j r)) := D0.eq (fun r hr hc v hv => e0 r hr hc v hv (Or.inl hv))
      have o0 := F.o o12
      refine bX5_refresh_64 _ _ _ _ _ _ _ ⟨T0.o, br_t (by rw [T0.e8]; exact nI_le (Nat.le_refl _) (by omega)) ⟨o0, fun h4 e4 => ?_⟩⟩
      have F4' : fr [] [(12, 7)] h0 h4 := by rw [e4]; exact fr_pF (by simp) o0 rfl rfl
      have F4 : fr [14, sc] [(13, 1), (12, 7)] h h4 := (F.mo (fun _ z => z) (by simp)).tr (F4'.mo (by simp) (by simp))
      have T4 := T.fz (F4.z (Nat.le_refl _)) (okT_mo okt (by simp [XW]) (by simp [YW]))
      have D4 : sdR h4 sc N j (fun r => f (dg 4 j r)) := fun r hr hc => by rw [F4'.i (by simp)]; exact D1 r hr hc
      have o4 := F4.o o12
      have g4 : ∀ fl, fl ≠ 7 → gR h4 12 fl = gR h 12 fl := fun fl z => F4.gr (by simp [z])
      refine s5_makeRoom T4 o4 (by rw [g4 2 (by decide)]; exact r2) (by rw [g4 3 (by decide)]; exact r3) (by rw [g4 4 (by decide)]; exact r4) (F4.ik k2) (F4.ik k3) (F4.ik k4) (by rw [F4.n]; exact hsz) (by rw [F4.n]; exact n65) (by rw [F4.n]; exact n3) (by rw [F4.n]; exact n4) d3 D4 (fun h7 tc' nc' F7 r37 r47 R3 R4 d3' c7 s7 => ⟨rfl, F7.o o4, ?_⟩)
      have l4 : h4.1 = h.1 := F4.1.1
      have T7 := T4.fz F7 (okT_mo okt (by simp) (by simp [YW]))
      have o7 := F7.o o4
      have g7 : ∀ fl, fl ≠ 3 → fl ≠ 4 → fl ≠ 7 → gR h7 12 fl = gR h 12 fl := fun fl z1 z2 z => (F7.gr o4.1 (by simp [z1, z2])).trans (g4 fl z)
      have D7 : sdR h7 sc N j (fun r => f (dg 4 j r)) := fun r hr hc => by rw [F7.i (F4.ik k2).1 (by simp)]; exact D4 r hr hc
      have k27 := F7.ik (F4.ik k2)
      have n27 : aN h7 sc = aN h sc := (F7.n (F4.ik k2).1).trans (F4.n sc)
      have k157 := F7.ik (F4.ik k15)
      have n157 : aN h7 15 = 256 := ((F7.n (F4.ik k15).1).trans (F4.n 15)).trans n15
      have x3 : tc' = tc ∨ h.1 ≤ tc' := by rw [← l4]; exact R3.1
      have x4 : nc' = nc ∨ h.1 ≤ nc' := by rw [← l4]; exact R4.1
      have hl := k15.1
      have m126 : ∀ {y : Nat}, y = sc ∨ y = tc ∨ y = nc → y < h.1 := fun z => by rcases z with rfl | rfl | rfl; exact k2.1; exact k3.1; exact k4.1
      have y3 : tc' = 17 ∨ 126 ≤ tc' := by
        rcases x3 with z | z
        · rw [z]; exact c3
        · exact Or.inr (Nat.le_trans hmin z)
      have y4 : nc' = 18 ∨ 126 ≤ nc' := by
        rcases x4 with z | z
        · rw [z]; exact c4
        · exact Or.inr (Nat.le_trans hmin z)
      have q2 := m126 (Or.inl rfl)
      have d1' : sc ≠ tc' := by rcases x3 with z | z <;> omega
      have d2' : sc ≠ nc' := by rcases x4 with z | z <;> omega
      refine s5_sort T7 o7 (by rw [g7 1 (by decide) (by decide) (by decide)]; exact r1) k157 n157 (by rw [g7 2 (by decide) (by decide) (by decide)]; exact r2) k27 (by rw [n27]; exact hsz) (by rw [n27]; exact n65) (by omega) r37 R3.2.1 (by have := R3.2.2.2.1; omega) (by omega) r47 R4.2.1 (by have := R4.2.2.2.1; omega) (by omega) d1' d2' d3' D7 R3.2.2.1 R4.2.2.1 (fun h9 F9 g5 g6 l3 l4 K9 => ⟨rfl, F9.o o7, ?_⟩)
      have o9 := F9.o o7
      refine s5_closeDownwards (k0 := kp0 N j f) o9 (by rw [F9.gr (by simp), g7 1 (by decide) (by decide) (by decide)]; exact r1) (F9.ik k157) (by rw [F9.n]; exact n157) K9 (fun h11 F11 K11 => ⟨rfl, F11.o o9, fun h13 e13 => ?_⟩)
      have o11 := F11.o o9
      have F13 : fr [] [(12, 8)] h11 h13 := by rw [e13]; exact fr_pF (by simp) o11 rfl rfl
      have FA : fr [15, tc', nc'] [(12, 5), (12, 6), (12, 8)] h7 h13 := ((F9.mo (fun _ z => z) (fun _ z => by simp at z ⊢; rcases z with z | z <;> simp [z])).tr (F11.mo (by simp) (by simp))).tr (F13.mo (by simp) (by simp))
      have e13I : ∀ a, aI h13 a = aI h11 a := fun a => F13.i (by simp)
      have F7h : fz h.1 [14, sc] [(13, 1), (12, 7), (12, 3), (12, 4)] h h7 := ((F4.z (Nat.le_refl _)).mo (Nat.le_refl _) (fun _ _ z => z) (fun _ _ z => by simp at z ⊢; rcases z with z | z <;> simp [z])).tr (F7.mo (by omega) (by simp) (fun _ _ z => by simp at z ⊢; rcases z with z | z <;> simp [z]))
      have FF : fz h.1 (XW sc tc nc) YW h h13 := (F7h.mo (Nat.le_refl _) (fun _ _ z => by simp at z; rcases z with z | z <;> simp [XW, z]) (fun _ _ z => by simp at z; rcases z with z | z | z | z <;> simp [YW, z])).tr ((FA.z (n := h.1) F7h.1.2.1).mo (Nat.le_refl _) (fun k hk z => by
          simp at z
          rcases z with z | z | z
          · simp [XW, z]
          · rcases x3 with y | y
            · simp [XW, z, y]
            · omega
          · rcases x4 with y | y
            · simp [XW, z, y]
            · omega) (fun _ _ z => by simp at z; rcases z with z | z | z <;> simp [YW, z]))
      have nA : ∀ a, aN h13 a = aN h7 a := FA.n
      have r313 : gR h13 12 3 = some tc' := by rw [FA.gr (by simp)]; exact r37
      have r413 : gR h13 12 4 = some nc' := by rw [FA.gr (by simp)]; exact r47
      have g13 : ∀ fl, fl ≤ 2 → gR h13 12 fl = gR h 12 fl := fun fl z => by rw [FA.gr (by simp; omega)]; exact g7 fl (by omega) (by omega) (by omega)
      have D13 : sdR h13 sc N j (fun r => f (dg 4 j r)) := fun r hr hc => by rw [FA.i (by simp; omega)]; exact D7 r hr hc
      have g137 : gI h13 12 7 = nI 0 := by rw [FA.gi (by simp), F7.gi o4.1 (by simp), e4, gI_pF_s o0 (by decide)]; rfl
      refine H h13 tc' nc' FF ⟨⟨FA.o o7, by rw [g13 0 (by decide)]; exact r0, by rw [g13 1 (by decide)]; exact r1, FA.ik k157, by rw [nA]; exact n157⟩, ⟨by rw [g13 2 (by decide)]; exact r2, FA.ik k27, c2, kk, hkk, by rw [nA, n27]; exact n2⟩, ⟨r313, FA.ik R3.2.1, y3, by rw [nA]; exact R3.2.2.2.1⟩, ⟨r413, FA.ik R4.2.1, y4, by rw [nA]; exact R4.2.2.2.1⟩, d1', d2', d3'⟩
        ⟨g137, by decide, Or.inr ⟨by rw [nA, n27]; exact hsz, _, D13, fun _ _ _ _ _ _ => rfl⟩⟩ (by rw [e13]; exact gI_pF_s o11 (by decide)) ⟨⟨by rw [nA, n27]; exact hsz, D13⟩, ⟨?_, ?_, by rw [nA]; exact R3.2.2.1⟩, ⟨?_, ?_, by rw [nA]; exact R4.2.2.1⟩, ?_⟩ x3 x4 ?_ ?_
      · rw [F13.gi (by simp), F11.gi (by simp)]; exact g5
      · rw [e13I, F11.i (by simp; omega)]; exact l3
      · rw [F13.gi (by simp), F11.gi (by simp)]; exact g6
      · rw [e13I, F11.i (by simp; omega)]; exact l4
      · rw [e13I]; exact K11
      · have := FA.1.1; omega
      · rw [nA, nA, FA.1.2]
        rw [F4.n, F4.n, F4.1.2] at s7
        exact s7
    | succ k ih =>
      intro j h0 d0 hj F D0 e0
      have T0 := T.fz (F.z (Nat.le_refl _)) (okT_mo okt (by simp [XW]) (by simp [YW]))
      have o0 := F.o o12
      have E0 := E.fz (F.z (Nat.le_refl _)) (by simp; omega) (by simp) (by simp) (by simp)
      have S0' := S13.fz (F.z (Nat.le_refl _)) (by simp)
      refine bX5_refresh_64 _ _ _ _ _ _ _ ⟨T0.o, br_f (by rw [T0.e8]; exact nI_ge (by omega) (by omega)) ⟨o0, ?_⟩⟩
      rw [F.gi (by simp), e7, nI_1]
      refine ⟨fun q => ⟨E0.1, s1_ballotOf E0 (by omega) ⟨_, rfl, _, rfl, o0, ?_⟩⟩, fun q => ?_⟩
      · obtain ⟨b1, b2⟩ := Bs j (by omega)
        have b1' := b1.fr F (by simp [hR]) (by simp)
        refine s5_hearOfAll (R := R) T0 S0' o0 (by rw [F.gr (by simp)]; exact r0) (by rw [F.gr (by simp)]; exact r2) (F.ik k2) (by omega) (by rw [F.n]; exact hsz) (by rw [F.n]; exact n65) hR (by omega) (Nat.le_refl _) b1' b2 D0 (fun h22 F22 D22 => ⟨rfl, ?_⟩)
        refine ih (j + 1) h22 _ (by omega) (F.tr F22) D22 (fun r hr hc v hv z => ?_)
        by_cases y : v = j
        · subst y
          rw [ud_s, hf _ _ hv]
        · rw [ud_n y]
          refine e0 r hr hc v hv ?_
          rcases z with z | z
          · exact Or.inl (by omega)
          · exact Or.inr z
      · rw [nI_bit (by omega) (by omega)] at q
        refine ih (j + 1) h0 d0 (by omega) F D0 (fun r hr hc v hv z => ?_)
        refine e0 r hr hc v hv ?_
        by_cases y : v = j
        · subst y; right; simpa using q
        · rcases z with z | z
          · exact Or.inl (by omega)
          · exact Or.inr z
  have := main V 0 h d (by omega) fr.rf D (fun r hr hc v hv z => dS r hr hc v hv (z.resolve_left (Nat.not_lt_zero _)))
  exact this
end

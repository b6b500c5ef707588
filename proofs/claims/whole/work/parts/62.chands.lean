/-! ===== the class: the first broken, hands ===== -/
section
variable {h h' : zH} {Q : Option Value → zH → Prop} {X : List Nat} {Y : List (Nat × Nat)} {t V N : Nat} {st wt mk : Nat → Nat} {f : (Nat → Nat) → Nat → Nat} {o : Nat → Option Nat} {cn cu : Nat → Nat} {cd : Nat → Nat → Nat × Nat × Nat}
theorem s6_firstBroken {V0 : Nat} {R : List Nat} (S : cSp h 10) (T : cT h t N V st wt) (E : cEn h 33 o) (hV0 : V0 ≤ V) (hm : ∀ v, v < V → mk v ≤ 3) (Bs : ∀ v, v < V0 → cB h R ((o v).getD 34) (cn v) (cd v) (cu v) ∧ okC V0 N v (cn v) (cd v)) (hok : ∀ v, v < V → mk v ≤ N)
    (H : ∀ h', fr [11] [(10, 1)] h h' → Q (some (.int (oI (fsN (fun v => decide (sayF V N st wt mk v (cn v) (cd v) ≠ mk v)) V0 0)))) h') : zC mX6_firstBroken [.ref 10, .ref 33, .int (nI V0), .int (nI (en 4 V mk)), .ref t] h Q := by
  have hV := T.V8
  have hN := T.N3
  have L : ∀ (d v : Nat) (h0 : zH), v + d = V0 → fr [11] [(10, 1)] h h0 → fsN (fun v => decide (sayF V N st wt mk v (cn v) (cd v) ≠ mk v)) d v = fsN (fun v => decide (sayF V N st wt mk v (cn v) (cd v) ≠ mk v)) V0 0 → zX mX6_firstBroken 3 [.ref 10, .ref 33, .int (nI V0), .int (nI (en 4 V mk)), .ref t, .int (nI v)] [] h0 Q := by
    intro d
    induction d with
    | zero =>
      intro v h0 hv F e
      have : v = V0 := by omega
      subst this
      have HH := H h0 F
      rw [← e] at HH
      exact bX6_firstBroken_3 _ _ _ _ _ _ _ _ (br_t (nI_le (Nat.le_refl _) (by omega)) HH)
    | succ d ih =>
      intro v h0 hv F e
      rw [fsN] at e
      have Fz := F.z (Nat.le_refl h.1)
      have okt : okT [11] [(10, 1)] t = true := by rcases T.1 with rfl | rfl | rfl <;> decide
      have T0 := T.fz Fz okt
      have E0 := E.fz Fz (by simp) (by simp) (by simp) (by simp)
      have S0 := S.fr F (by simp)
      have B0 := (Bs v (by omega)).1.fr F (by simp) (by simp)
      refine bX6_firstBroken_3 _ _ _ _ _ _ _ _ (br_f (nI_ge (by omega) (by omega)) ⟨E0.1, s1_ballotOf E0 (by omega) ⟨_, rfl, _, rfl, S0.2.1, ?_⟩⟩)
      refine s6_hear S0 T0 hm (by omega) hV0 B0 (Bs v (by omega)).2 (fun h7 F7 => ⟨_, rfl, ?_⟩)
      have F7' : fr [11] [(10, 1)] h0 h7 := F7
      have T7 := T0.fz (F7'.z (Nat.le_refl _)) okt
      refine ⟨T7.o, s10_markOf T7 (by omega) hm ⟨_, rfl, ?_⟩⟩
      have sl : sayF V N st wt mk v (cn v) (cd v) ≤ N := sayF_le (V' := V0) (fun w hw => hok w (by omega)) (Bs v (by omega)).2
      have ml := hok v (by omega)
      rw [nI_eq (by omega) (by omega), nI_1]
      refine ⟨fun q => ih (v + 1) h7 (by omega) (F.tr F7') (by rw [← e]; simp [q]), fun q => ?_⟩
      have HH := H h7 (F.tr F7')
      rw [← e] at HH
      simpa [q, oI] using HH
  exact nX6_firstBroken _ _ _ _ _ _ _ (bX6_firstBroken_0 _ _ _ _ _ _ _ (L V0 0 h (by omega) fr.rf rfl))
/-! hands -/
def cHl (h : zH) (a : Nat) (HL : List zHd) : Prop := oK h a 2 ∧ (gR h a 0 = some (a + 1) ∧ gR h a 1 = some (a + 2) ∧ gR h a 2 = some (a + 3) ∧ gR h a 3 = some (a + 4)) ∧ (∀ k, k < 4 → iK h (a + 1 + k) 0 ∧ aN h (a + 1 + k) = 20) ∧ gI h a 4 = nI HL.length ∧ hdA h (a + 1) 0 HL
theorem cHl.k {a : Nat} {HL : List zHd} (A : cHl h a HL) {k : Nat} (hk : k < 4) : iK h (a + 1 + k) 0 := (A.2.2.1 k hk).1
theorem cHl.n {a : Nat} {HL : List zHd} (A : cHl h a HL) {k : Nat} (hk : k < 4) : aN h (a + 1 + k) = 20 := (A.2.2.1 k hk).2
theorem cHl.fz {a : Nat} {HL : List zHd} (A : cHl h a HL) (F : fz h.1 X Y h h') (hX : ∀ k, k < 4 → a + 1 + k ∉ X) (hY : ∀ f, f < 5 → (a, f) ∉ Y) : cHl h' a HL := by
  obtain ⟨a1, ⟨a2, a3, a4, a5⟩, a6, a7, a8⟩ := A
  have i : ∀ k, k < 4 → aI h' (a + 1 + k) = aI h (a + 1 + k) := fun k hk => F.i (a6 k hk).1.1 (hX k hk)
  refine ⟨F.o a1, ⟨by rw [F.gr a1.1 (hY 0 (by omega))]; exact a2, by rw [F.gr a1.1 (hY 1 (by omega))]; exact a3, by rw [F.gr a1.1 (hY 2 (by omega))]; exact a4, by rw [F.gr a1.1 (hY 3 (by omega))]; exact a5⟩, fun k hk => ⟨F.ik (a6 k hk).1, by rw [F.n (a6 k hk).1.1]; exact (a6 k hk).2⟩, by rw [F.gi a1.1 (hY 4 (by omega))]; exact a7, fun n q hq => ?_⟩
  have := a8 n q hq
  rw [show aI h' (a + 1) = aI h (a + 1) from i 0 (by omega), show aI h' (a + 1 + 1) = aI h (a + 1 + 1) from i 1 (by omega), show aI h' (a + 1 + 2) = aI h (a + 1 + 2) from i 2 (by omega), show aI h' (a + 1 + 3) = aI h (a + 1 + 3) from i 3 (by omega)]
  exact this
def XHd : List Nat := [38, 39, 40, 41]
def YHd : List (Nat × Nat) := [(37, 4)]
theorem hd_add {a : Nat} {HL : List zHd} {q0 : zHd} (A : hdA h a 0 HL) (e : ∀ k, k < 4 → ∀ i, i ≠ HL.length → aI h' (a + k) i = aI h (a + k) i) (e1 : aI h' a HL.length = nI q0.1) (e2 : aI h' (a + 1) HL.length = nI q0.2.1) (e3 : aI h' (a + 2) HL.length = nI q0.2.2.1) (e4 : aI h' (a + 3) HL.length = oI q0.2.2.2) : hdA h' a 0 (HL ++ [q0]) := by
  intro n q hq
  rw [Nat.zero_add]
  by_cases z : n < HL.length
  · rw [List.getElem?_append_left z] at hq
    have := A n q hq
    rw [Nat.zero_add] at this
    rw [show aI h' a n = aI h a n from e 0 (by omega) n (by omega), e 1 (by omega) n (by omega), e 2 (by omega) n (by omega), e 3 (by omega) n (by omega)]
    exact this
  · rw [List.getElem?_append_right (by omega)] at hq
    have : n = HL.length := by
      rcases Nat.lt_or_ge (n - HL.length) 1 with y | y
      · omega
      · rw [List.getElem?_eq_none (by simpa using y)] at hq; cases hq
    subst this
    rw [Nat.sub_self] at hq
    cases hq
    exact ⟨e1, e2, e3, e4⟩
theorem s2_tell {HL : List zHd} {j m tm : Nat} (A : cHl h 37 HL) (hl : HL.length ≤ 20) (H1 : ∀ h', HL.length < 20 → fr XHd YHd h h' → cHl h' 37 (HL ++ [(j, m, tm, none)]) → Q (some (.int (nI HL.length))) h') (H0 : HL.length = 20 → Q (some (.int (-1))) h) : zC mX2_tell [.ref 37, .int (nI j), .int (nI m), .int (nI tm)] h Q := by
  have a1 := A.1
  obtain ⟨r0, r1, r2, r3⟩ := A.2.1
  have g4 := A.2.2.2.1
  refine nX2_tell _ _ _ _ _ _ (bX2_tell_0 _ _ _ _ _ _ ⟨a1, ?_⟩)
  rw [g4, nI_lit 20, nI_ltI (by omega) (by decide)]
  refine ⟨fun q => ⟨_, r0, s11_putN (A.k (k := 0) (by omega)) (A.n (k := 0) (by omega)) q (by decide) (fun h4 e4 => ⟨rfl, ?_⟩)⟩, fun q => H0 (by omega)⟩
  have F4 : fr XHd YHd h h4 := by rw [e4]; exact fr_pI (by decide)
  have o4 := F4.o a1
  have g44 : gI h4 37 4 = nI HL.length := by rw [e4, gI_pI]; exact g4
  refine ⟨o4, _, by rw [F4.gr (by decide)]; exact r1, ?_⟩
  rw [g44]
  refine s11_putN (F4.ik (A.k (k := 1) (by omega))) (by rw [F4.n]; exact A.n (k := 1) (by omega)) q (by decide) (fun h7 e7 => ⟨rfl, ?_⟩)
  have F7 : fr XHd YHd h4 h7 := by rw [e7]; exact fr_pI (by decide)
  have F47 := F4.tr F7
  have g47 : gI h7 37 4 = nI HL.length := by rw [e7, gI_pI]; exact g44
  refine ⟨F47.o a1, _, by rw [F47.gr (by decide)]; exact r2, ?_⟩
  rw [g47]
  refine s11_putN (F47.ik (A.k (k := 2) (by omega))) (by rw [F47.n]; exact A.n (k := 2) (by omega)) q (by decide) (fun h10 e10 => ⟨rfl, ?_⟩)
  have F10 : fr XHd YHd h7 h10 := by rw [e10]; exact fr_pI (by decide)
  have FA := F47.tr F10
  have g410 : gI h10 37 4 = nI HL.length := by rw [e10, gI_pI]; exact g47
  refine ⟨FA.o a1, _, by rw [FA.gr (by decide)]; exact r3, ?_⟩
  rw [g410]
  refine s11_putN (FA.ik (A.k (k := 3) (by omega))) (by rw [FA.n]; exact A.n (k := 3) (by omega)) q (by decide) (fun h13 e13 => ⟨rfl, ?_⟩)
  have F13 : fr XHd YHd h10 h13 := by rw [e13]; exact fr_pI (by decide)
  have FB := FA.tr F13
  have o13 := FB.o a1
  have g413 : gI h13 37 4 = nI HL.length := by rw [e13, gI_pI]; exact g410
  refine ⟨o13, fun h15 e15 => ?_⟩
  rw [g413] at e15
  have F15 : fr XHd YHd h13 h15 := by rw [e15]; exact fr_pF (by decide) o13 rfl rfl
  have FC := FB.tr F15
  have g415 : gI h15 37 4 = nI (HL.length + 1) := by rw [e15, gI_pF_s o13 (by decide)]; exact nI_1 _
  rw [g415, nI_pred]
  have r15 : ∀ a, aI h15 a = aI h13 a := fun a => by rw [e15]; exact funext fun i => aI_pF
  refine H1 h15 q FC ⟨FC.o a1, ⟨by rw [FC.gr (by decide)]; exact r0, by rw [FC.gr (by decide)]; exact r1, by rw [FC.gr (by decide)]; exact r2, by rw [FC.gr (by decide)]; exact r3⟩, fun k hk => ⟨FC.ik (A.k hk), by rw [FC.n]; exact A.n hk⟩, by rw [g415]; simp, hd_add A.2.2.2.2 (fun k hk i hi => ?_) ?_ ?_ ?_ ?_⟩
  · rw [r15, e13, aI_pI_n (Or.inr hi), e10, aI_pI_n (Or.inr hi), e7, aI_pI_n (Or.inr hi), e4, aI_pI_n (Or.inr hi)]
  · rw [r15, e13, aI_pI_n (Or.inl (by decide)), e10, aI_pI_n (Or.inl (by decide)), e7, aI_pI_n (Or.inl (by decide)), e4]; exact aI_pI_s ⟨_, A.k (k := 0) (by omega)⟩
  · rw [r15, e13, aI_pI_n (Or.inl (by decide)), e10, aI_pI_n (Or.inl (by decide)), e7]; exact aI_pI_s ⟨_, F4.ik (A.k (k := 1) (by omega))⟩
  · rw [r15, e13, aI_pI_n (Or.inl (by decide)), e10]; exact aI_pI_s ⟨_, F47.ik (A.k (k := 2) (by omega))⟩
  · rw [r15, e13]; exact aI_pI_s ⟨_, FA.ik (A.k (k := 3) (by omega))⟩
theorem s2_takeBack {HL : List zHd} {tm : Nat} {x : Int32} (A : cHl h 37 HL) (O : hdO V N HL) (H1 : ∀ n q0 h', x = nI n → HL[n]? = some q0 → q0.2.2.2 = none → fr XHd YHd h h' → cHl h' 37 (HL.set n (q0.1, q0.2.1, q0.2.2.1, some tm)) → Q (some (.int 1)) h') (H0 : ((x < 0 ∨ nI HL.length ≤ x) ∨ ∃ n q0, x = nI n ∧ HL[n]? = some q0 ∧ q0.2.2.2 ≠ none) → Q (some (.int 0)) h) : zC mX2_takeBack [.ref 37, .int x, .int (nI tm)] h Q := by
  have a1 := A.1
  obtain ⟨r0, r1, r2, r3⟩ := A.2.1
  have g4 := A.2.2.2.1
  have h20 := O.1
  refine nX2_takeBack _ _ _ _ _ (bX2_takeBack_0 _ _ _ _ _ ⟨fun q => H0 (Or.inl (Or.inl q)), fun q => ⟨a1, ?_⟩⟩)
  rw [g4]
  refine ⟨fun q2 => H0 (Or.inl (Or.inr q2)), fun q2 => ⟨_, r3, ?_⟩⟩
  obtain ⟨n, m1, rfl⟩ := nI_of q
  rw [nI_leI (by omega) m1] at q2
  obtain ⟨q0, hq, -⟩ := drop_of (l := HL) (n := n) (by omega)
  have a := A.2.2.2.2 n q0 hq
  rw [Nat.zero_add] at a
  have oo := O.2 q0 (List.mem_of_getElem? hq)
  refine s11_atN (A.k (k := 3) (by omega)) (A.n (k := 3) (by omega)) (by omega) (by decide) ⟨_, rfl, ?_⟩
  have e3 : aI h (37 + 1 + 3) n = oI q0.2.2.2 := a.2.2.2
  rw [e3, oI_ne (fun u hu => by have := oo.2.2.2 u hu; omega)]
  refine ⟨fun z => ⟨a1, _, r3, s11_putN (A.k (k := 3) (by omega)) (A.n (k := 3) (by omega)) (by omega) (by decide) (fun h10 e10 => ⟨rfl, ?_⟩)⟩, fun z => H0 (Or.inr ⟨n, q0, rfl, hq, z⟩)⟩
  have F : fr XHd YHd h h10 := by rw [e10]; exact fr_pI (by decide)
  refine H1 n q0 h10 rfl hq z F ⟨F.o a1, ⟨by rw [F.gr (by decide)]; exact r0, by rw [F.gr (by decide)]; exact r1, by rw [F.gr (by decide)]; exact r2, by rw [F.gr (by decide)]; exact r3⟩, fun k hk => ⟨F.ik (A.k hk), by rw [F.n]; exact A.n hk⟩, by rw [e10, gI_pI, g4, List.length_set], fun i y hi => ?_⟩
  rw [Nat.zero_add]
  by_cases w : i = n
  · subst w
    rw [List.getElem?_set_self (by omega)] at hi
    cases hi
    refine ⟨?_, ?_, ?_, ?_⟩
    · rw [e10, aI_pI_n (Or.inl (by decide))]; exact a.1
    · rw [e10, aI_pI_n (Or.inl (by decide))]; exact a.2.1
    · rw [e10, aI_pI_n (Or.inl (by decide))]; exact a.2.2.1
    · rw [e10]; exact aI_pI_s ⟨_, A.k (k := 3) (by omega)⟩
  · rw [List.getElem?_set_ne (Ne.symm w)] at hi
    have := A.2.2.2.2 i y hi
    rw [Nat.zero_add] at this
    rw [e10, aI_pI_n (Or.inr w), aI_pI_n (Or.inr w), aI_pI_n (Or.inr w), aI_pI_n (Or.inr w)]
    exact this
theorem s2_countsAt {HL : List zHd} {n : Nat} {k : Int32} {q0 : zHd} (A : cHl h 37 HL) (O : hdO V N HL) (hq : HL[n]? = some q0) (H1 : hdC k q0 = true → Q (some (.int 1)) h) (H0 : hdC k q0 = false → Q (some (.int 0)) h) : zC mX2_countsAt [.ref 37, .int (nI n), .int k] h Q := by
  have a1 := A.1
  obtain ⟨r0, r1, r2, r3⟩ := A.2.1
  have h20 := O.1
  have hl := (List.getElem?_eq_some_iff.mp hq).1
  have a := A.2.2.2.2 n q0 hq
  rw [Nat.zero_add] at a
  have oo := O.2 q0 (List.mem_of_getElem? hq)
  refine nX2_countsAt _ _ _ _ _ (bX2_countsAt_0 _ _ _ _ _ ⟨a1, _, r3, s11_atN (A.k (k := 3) (by omega)) (A.n (k := 3) (by omega)) (by omega) (by decide) ⟨_, rfl, a1, _, r2, s11_atN (A.k (k := 2) (by omega)) (A.n (k := 2) (by omega)) (by omega) (by decide) ⟨_, rfl, ?_⟩⟩⟩)
  have e3 : aI h (37 + 1 + 3) n = oI q0.2.2.2 := a.2.2.2
  have e2 : aI h (37 + 1 + 2) n = nI q0.2.2.1 := a.2.2.1
  rw [e3, e2, oI_ne (fun u hu => by have := oo.2.2.2 u hu; omega)]
  unfold hdC at H1 H0
  refine ⟨fun z => H0 ?_, fun z => ?_⟩
  · have : ¬ nI q0.2.2.1 ≤ k := Int32.not_le.mpr z
    rw [decide_eq_false this, Bool.false_and]
  · have z' : nI q0.2.2.1 ≤ k := Int32.not_lt.mp z
    rw [decide_eq_true z', Bool.true_and] at H1 H0
    cases hu : q0.2.2.2 with
    | none =>
      rw [hu] at H1
      exact br_t rfl (H1 rfl)
    | some u =>
      rw [hu] at H1 H0
      refine br_f (fun w => by cases w) ⟨fun w => H0 ?_, fun w => H1 ?_⟩
      · exact decide_eq_false (Int32.not_lt.mpr w)
      · exact decide_eq_true (Int32.not_le.mp w)
end

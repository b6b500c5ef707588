/-! ===== the state of a ring, and how the class holds it ===== -/
section
variable {h h' : zH} {Q : Option Value → zH → Prop} {R : List Nat} {t t2 sc tc nc V N : Nat} {o : Nat → Option Nat} {bo : Nat → Nat → Option Nat}
/-- ballots, marks, hands -/
abbrev zEs : Type := (Nat → zBl) × ((Nat → Nat) × List zHd)
/-- keys, streets, weights, told; now and boxes; the tape; time, fault and place -/
abbrev zSt : Type := ((zKs × ((Nat → Nat) × (Nat → Nat))) × (Nat → Bool)) × (zEs × (Nat → Option zEs)) × ((Nat × (Nat → Nat)) × (Nat × (Nat × Int32)))
abbrev wK (w : zSt) : zKs := w.1.1.1
abbrev wS (w : zSt) : Nat → Nat := w.1.1.2.1
abbrev wW (w : zSt) : Nat → Nat := w.1.1.2.2
abbrev wO (w : zSt) : Nat → Bool := w.1.2
abbrev wE (w : zSt) : zEs := w.2.1.1
abbrev wX (w : zSt) : Nat → Option zEs := w.2.1.2
abbrev wP (w : zSt) : Nat × (Nat → Nat) := w.2.2.1
abbrev wT (w : zSt) : Nat := w.2.2.2.1
abbrev wF (w : zSt) : Nat × Int32 := w.2.2.2.2
abbrev wV (w : zSt) : Nat := (wK w).2.2.1
abbrev wN (w : zSt) : Nat := (wK w).1.1
/-- how many steps, which steps, how many units -/
abbrev eN (e : zEs) : Nat → Nat := fun v => (e.1 v).1
abbrev eD (e : zEs) : Nat → Nat → zOp := fun v => (e.1 v).2.1
abbrev eU (e : zEs) : Nat → Nat := fun v => (e.1 v).2.2
/-- what the voters say -/
abbrev wf (w : zSt) : (Nat → Nat) → Nat → Nat := syF (wV w) (wN w) (wS w) (wW w) (eN (wE w)) (eD (wE w))
def esO (V N : Nat) (e : zEs) : Prop := (∀ v, v < V → okC V N v (eN e v) (eD e v)) ∧ (sm (eU e) 0 8 ≤ 80 ∧ ∀ v, V ≤ v → e.1 v = bl0) ∧ (∀ v, v < V → e.2.1 v ≤ N) ∧ hdO V N e.2.2
def stO (w : zSt) : Prop := kyO (wK w) ∧ (∀ v, v < wV w → wS w v < (wK w).2.1.1 ∧ wW w v ≤ 9) ∧ esO (wV w) (wN w) (wE w) ∧ (∀ k e, wX w k = some e → esO (wV w) (wN w) e) ∧ wT w ≤ 100000
def cEb (h : zH) (V a : Nat) (o : Nat → Option Nat) (e : zEs) : Prop := cEn h a o ∧ cHl h (a + 4) e.2.2 ∧ gI h a 3 = nI (en 4 V e.2.1)
def cBo (h : zH) (V k : Nat) (o : Nat → Option Nat) : Option zEs → Prop
  | none => gI h (43 + 9 * k) 4 = 0 ∧ cEn h (43 + 9 * k) o ∧ ∃ HL, cHl h (47 + 9 * k) HL
  | some e => gI h (43 + 9 * k) 4 = 1 ∧ cEb h V (43 + 9 * k) o e
/-- what a question leaves -/
def cFx (h : zH) (w : zSt) (t t2 : Nat) (o : Nat → Option Nat) (bo : Nat → Nat → Option Nat) : Prop := (126 ≤ h.1 ∧ ((t = 70 ∧ t2 = 77) ∨ (t = 77 ∧ t2 = 70)) ∧ cOb h t t2 ∧ cTn h t t2 (wK w) (wS w) (wW w) (wO w) ∧ cOs h) ∧ (cSp h 10 ∧ cSp h 13 ∧ cOl h ∧ cSl h ∧ cTlk h ∧ oK h 25 9 ∧ cBxR h ∧ cRr h ∧ cTp h (wP w).1 (wP w).2) ∧ (cEb h (wV w) 33 o (wE w) ∧ ∀ k, k < 3 → cBo h (wV w) k (bo k) (wX w k)) ∧ gI h 0 12 = nI (wT w) ∧ gI h 0 13 = nI (wF w).1 ∧ gI h 0 14 = (wF w).2
def SC : List Nat := [11, 14, 15, 16, 17, 18, 20, 22, 23, 24, 30, 31]
def SY : List (Nat × Nat) := [(10, 1), (12, 2), (12, 3), (12, 4), (12, 5), (12, 6), (12, 7), (12, 8), (13, 1), (19, 1), (19, 2), (19, 3), (19, 4), (21, 3), (25, 0), (25, 1), (25, 2), (25, 3), (25, 4), (25, 5), (26, 6), (26, 8), (37, 5), (37, 6)]
theorem cEb_fc {C : List Nat} {Y : List (Nat × Nat)} {a : Nat} {e : zEs} (A : cEb h V a o e) (F : fc C R Y h h') (l : 126 ≤ h.1) (ha : a + 9 ≤ 126) (hC : [3, 5, 6, 7, 8].all (fun k => !(C.contains (a + k))) = true) (hY : ([0, 1, 2, 3].all (fun f => !(Y.contains (a, f))) && [0, 1, 2, 3, 4].all (fun f => !(Y.contains (a + 4, f)))) = true) : cEb h' V a o e := by
  simp only [List.all_cons, List.all_nil, and_true, Bool.and_eq_true] at hY hC
  obtain ⟨x3, x5, x6, x7, x8⟩ := hC
  obtain ⟨⟨y0, y1, y2, y3⟩, z0, z1, z2, z3, z4⟩ := hY
  refine ⟨cEn_fc A.1 F l (by omega) x3 ?_, cHl_fc A.2.1 F l (by omega) ?_ ?_, ?_⟩
  · simp only [List.all_cons, List.all_nil, and_true, Bool.and_eq_true]; exact ⟨y0, y1, y2⟩
  · simp only [List.all_cons, List.all_nil, and_true, Bool.and_eq_true]; exact ⟨x5, x6, x7, x8⟩
  · simp only [List.all_cons, List.all_nil, and_true, Bool.and_eq_true]; exact ⟨z0, z1, z2, z3, z4⟩
  · rw [F.gi l (by omega) (ni_of y3)]; exact A.2.2
theorem cBo_fc {C : List Nat} {Y : List (Nat × Nat)} {k : Nat} {q : Option zEs} (A : cBo h V k o q) (F : fc C R Y h h') (l : 126 ≤ h.1) (hk : k < 3) (hC : C.all (fun k => decide (k < 43 ∨ 70 ≤ k)) = true) (hY : Y.all (fun q => decide (q.1 < 43 ∨ 70 ≤ q.1)) = true) : cBo h' V k o q := by
  have nC : ∀ j, 43 ≤ j → j < 70 → (!(C.contains j)) = true := fun j h1 h2 => by
    have : j ∉ C := fun z => by have := List.all_eq_true.mp hC j z; simp at this; omega
    simpa using this
  have nY : ∀ j f, 43 ≤ j → j < 70 → (!(Y.contains (j, f))) = true := fun j f h1 h2 => by
    have : (j, f) ∉ Y := fun z => by have := List.all_eq_true.mp hY (j, f) z; simp at this; omega
    simpa using this
  have cE : cEn h (43 + 9 * k) o → cEn h' (43 + 9 * k) o := fun A => cEn_fc A F l (by omega) (nC _ (by omega) (by omega)) (List.all_eq_true.mpr (fun f _ => nY _ _ (by omega) (by omega)))
  have cH : ∀ HL, cHl h (47 + 9 * k) HL → cHl h' (47 + 9 * k) HL := fun HL A => cHl_fc A F l (by omega) (List.all_eq_true.mpr (fun f hf => nC _ (by omega) (by simp at hf; omega))) (List.all_eq_true.mpr (fun f _ => nY _ _ (by omega) (by omega)))
  have g4 : ∀ f, gI h' (43 + 9 * k) f = gI h (43 + 9 * k) f := fun f => F.gi l (by omega) (ni_of (nY _ _ (by omega) (by omega)))
  cases q with
  | none =>
    obtain ⟨a1, a2, HL, a3⟩ := A
    exact ⟨by rw [g4]; exact a1, cE a2, HL, cH HL a3⟩
  | some e =>
    obtain ⟨a1, a2, a3, a4⟩ := A
    exact ⟨by rw [g4]; exact a1, cE a2, by rw [show 43 + 9 * k + 4 = 47 + 9 * k by omega] at a3 ⊢; exact cH _ a3, by rw [g4]; exact a4⟩
theorem cFx_fc {w : zSt} (A : cFx h w t t2 o bo) (F : fc SC R SY h h') : cFx h' w t t2 o bo := by
  obtain ⟨⟨l, ht, a1, a2, a3⟩, ⟨b1, b2, b3, b4, b5, b6, b7, b8, b9⟩, ⟨c1, c2⟩, d1, d2, d3⟩ := A
  exact ⟨⟨by have := F.le; omega, ht, cOb_fc a1 F (by decide), cTn_fc a2 ht F l (by decide) (by decide), cOs_fc a3 F⟩, ⟨cSp_fc b1 F l (by decide), cSp_fc b2 F l (by decide), cOl_fc b3 F l (by decide), cSl_fc b4 F l (by decide), cTl_fc b5 F l (by decide), F.o b6, cBxR_fc b7 F l (by decide) (by decide), cRr_fc b8 F l (by decide) (by decide), cTp_fc b9 F l (by decide) (by decide)⟩, ⟨cEb_fc c1 F l (by decide) (by decide) (by decide), fun k hk => cBo_fc (c2 k hk) F l hk (by decide) (by decide)⟩, by rw [F.gi l (by decide) (by decide)]; exact d1, by rw [F.gi l (by decide) (by decide)]; exact d2, by rw [F.gi l (by decide) (by decide)]; exact d3⟩
/-- the ballots that are kept -/
def cBs (h : zH) (R : List Nat) (o : Nat → Option Nat) (e : zEs) : Prop := ∀ v, v < 8 → cB h R ((o v).getD 34) (eN e v) (eD e v) (eU e v) ∧ ∀ b, o v = some b → 126 ≤ b
theorem cBs_fc {C R' : List Nat} {Y : List (Nat × Nat)} {e : zEs} (A : cBs h R o e) (F : fc C R Y h h') (hC : C.all (fun k => decide (k < 126 ∧ k ≠ 35)) = true) (hY : Y.all (fun q => decide (q.1 < 126 ∧ q.1 ≠ 34)) = true) (hR : ∀ k, k ∈ R' → k ∈ R ∨ h.1 ≤ k) : cBs h' R' o e := fun v hv => by
  obtain ⟨X, G, x⟩ := F
  refine ⟨(A v hv).1.fz G (fun k hk => ?_) (fun q hq => ?_) hR, (A v hv).2⟩
  · rcases x k hk with y | y
    · have := List.all_eq_true.mp hC k y; simp at this; exact Or.inl this
    · exact Or.inr y.2
  · have := List.all_eq_true.mp hY q hq; simp at this; exact this
/-- what a question makes anew: rows, orders, sways -/
def cOq (h : zH) (V : Nat) (f : (Nat → Nat) → Nat → Nat) : Prop := gI h 19 4 = 0 ∨ (gI h 19 4 = 1 ∧ gI h 19 2 = soA (soF f V) 0 ∧ gI h 19 3 = soA (soF f V) 1)
def cSq (h : zH) (N V : Nat) (f : (Nat → Nat) → Nat → Nat) (st wt : Nat → Nat) : Prop := ∃ KB, gI h 21 3 = nI KB ∧ KB < 8 ∧ ∀ j, j < N → KB.testBit j = true → swK h N V f st wt j
def cVr (h : zH) (w : zSt) (o : Nat → Option Nat) (bo : Nat → Nat → Option Nat) (sc tc nc : Nat) : Prop := cRl h sc tc nc ∧ ((gI h 12 8 = 0 ∧ ∃ S, cRd h sc (wN w) (wV w) (wf w) S) ∨ (gI h 12 8 = 1 ∧ cRd h sc (wN w) (wV w) (wf w) 0 ∧ cRf h sc tc nc (wN w) (wV w) (wS w) (wW w) (wf w))) ∧ (cBs h [sc, tc, nc] o (wE w) ∧ ∀ k e, k < 3 → wX w k = some e → cBs h [sc, tc, nc] (bo k) e) ∧ cOq h (wV w) (wf w) ∧ cSq h (wN w) (wV w) (wf w) (wS w) (wW w)
def cSz (h : zH) (P c sc tc nc : Nat) : Prop := h.1 ≤ 126 + 20 * c ∧ h.2.1 ≤ P + 6000 * c + 2 * (aN h sc + aN h tc + aN h nc)
end

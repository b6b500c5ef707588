/-! ===== the class's questions: telling, says, looks, has, judge; mark, open ===== -/
section
variable {h h' h1 h2 : zH} {Q : Option Value → zH → Prop} {t t2 sc tc nc P c N V : Nat} {o : Nat → Option Nat} {bo : Nat → Nat → Option Nat} {w w' : zSt} {f : (Nat → Nat) → Nat → Nat}
theorem cSz_up {c' : Nat} (Z : cSz h P c sc tc nc) (hc : c ≤ c') : cSz h P c' sc tc nc := ⟨by have := Z.1; omega, by have := Z.2; omega⟩
/-- rows untouched -/
theorem cVr0_fc {C : List Nat} {Y : List (Nat × Nat)} (A : cFx h w t t2 o bo) (B : cVr h w o bo sc tc nc) (F : fc C [] Y h h') (hC : C.all (fun k => decide (k < 126 ∧ k ≠ 15 ∧ k ≠ 16 ∧ k ≠ 17 ∧ k ≠ 18 ∧ k ≠ 35)) = true) (hY : Y.all (fun q => decide (q.1 < 126 ∧ q.1 ≠ 12 ∧ q.1 ≠ 34)) = true) : cRl h' sc tc nc ∧ ((gI h' 12 8 = 0 ∧ ∃ S, cRd h' sc (wN w) (wV w) (wf w) S) ∨ (gI h' 12 8 = 1 ∧ cRd h' sc (wN w) (wV w) (wf w) 0 ∧ cRf h' sc tc nc (wN w) (wV w) (wS w) (wW w) (wf w))) ∧ (cBs h' [sc, tc, nc] o (wE w) ∧ ∀ k e, k < 3 → wX w k = some e → cBs h' [sc, tc, nc] (bo k) e) := by
  have l := A.1.1
  have nC : ∀ k, (k = 15 ∨ k = 16 ∨ k = 17 ∨ k = 18 ∨ 126 ≤ k) → k ∉ C := fun k hk z => by have := List.all_eq_true.mp hC k z; simp at this; omega
  have nY : ∀ k f, k = 12 → (k, f) ∉ Y := fun k f hk z => by have := List.all_eq_true.mp hY (k, f) z; simp at this; omega
  obtain ⟨⟨⟨o12, r0, r1, k15, n15⟩, ⟨r2, k2, c2, kk, hkk, n2⟩, ⟨r3, k3, c3, n3⟩, ⟨r4, k4, c4, n4⟩, d1, d2, d3⟩, B8, ⟨Bs, Bx⟩, Bo, Bw⟩ := B
  have ei : ∀ k, k < h.1 → (k = 15 ∨ k = 16 ∨ k = 17 ∨ k = 18 ∨ 126 ≤ k) → aI h' k = aI h k := fun k hk hq => by
    obtain ⟨X, G, x⟩ := F
    refine G.i hk (fun z => ?_)
    rcases x k z with y | y
    · exact nC k (by omega) y
    · cases y.2
  have g : ∀ f, gI h' 12 f = gI h 12 f := fun f => F.gi l (by decide) (nY 12 f rfl)
  have gr : ∀ f, gR h' 12 f = gR h 12 f := fun f => F.gr l (by decide) (nY 12 f rfl)
  have e2 := ei sc k2.1 (by omega)
  have e3 := ei tc k3.1 (by omega)
  have e4 := ei nc k4.1 (by omega)
  have e15 := ei 15 k15.1 (Or.inl rfl)
  have F' : fc C [sc, tc, nc] Y h h' := by
    obtain ⟨X, G, x⟩ := F
    exact ⟨X, G, fun k hk => (x k hk).elim Or.inl (fun y => by cases y.2)⟩
  have m2 : aN h' sc = aN h sc := F.n k2.1
  have m3 : aN h' tc = aN h tc := F.n k3.1
  have m4 : aN h' nc = aN h nc := F.n k4.1
  have sd : ∀ {d : Nat → Nat → Nat}, sdR h sc (wN w) (wV w) d → sdR h' sc (wN w) (wV w) d := fun D r hr hc => by rw [e2]; exact D r hr hc
  have rd : ∀ {S : Nat}, cRd h sc (wN w) (wV w) (wf w) S → cRd h' sc (wN w) (wV w) (wf w) S := fun ⟨p1, p2, p3⟩ => ⟨by rw [g]; exact p1, p2, p3.elim Or.inl (fun z => Or.inr ⟨by rw [m2]; exact z.1, z.2.choose, sd z.2.choose_spec.1, z.2.choose_spec.2⟩)⟩
  refine ⟨⟨⟨F.o o12, by rw [gr]; exact r0, by rw [gr]; exact r1, F.ik k15, by rw [F.n k15.1]; exact n15⟩, ⟨by rw [gr]; exact r2, F.ik k2, c2, kk, hkk, by rw [m2]; exact n2⟩, ⟨by rw [gr]; exact r3, F.ik k3, c3, by rw [m3]; exact n3⟩, ⟨by rw [gr]; exact r4, F.ik k4, c4, by rw [m4]; exact n4⟩, d1, d2, d3⟩, ?_, ⟨cBs_fc Bs F' ?_ ?_ (fun _ z => Or.inl z), fun k e hk he => cBs_fc (Bx k e hk he) F' ?_ ?_ (fun _ z => Or.inl z)⟩⟩
  · rcases B8 with ⟨g8, S, D⟩ | ⟨g8, D, ⟨f1, f2⟩, ⟨a0, a1, a2⟩, ⟨b0, b1, b2⟩, cc⟩
    · exact Or.inl ⟨by rw [g]; exact g8, S, rd D⟩
    · exact Or.inr ⟨by rw [g]; exact g8, rd D, ⟨by rw [m2]; exact f1, sd f2⟩, ⟨by rw [g]; exact a0, by rw [e3]; exact a1, by rw [m3]; exact a2⟩, ⟨by rw [g]; exact b0, by rw [e4]; exact b1, by rw [m4]; exact b2⟩, fun s hs => by rw [e15]; exact cc s hs⟩
  · exact List.all_eq_true.mpr (fun k hk => by have := List.all_eq_true.mp hC k hk; simp at this ⊢; omega)
  · exact List.all_eq_true.mpr (fun k hk => by have := List.all_eq_true.mp hY k hk; simp at this ⊢; omega)
  · exact List.all_eq_true.mpr (fun k hk => by have := List.all_eq_true.mp hC k hk; simp at this ⊢; omega)
  · exact List.all_eq_true.mpr (fun k hk => by have := List.all_eq_true.mp hY k hk; simp at this ⊢; omega)
theorem cVr_fc {C : List Nat} {Y : List (Nat × Nat)} (A : cFx h w t t2 o bo) (B : cVr h w o bo sc tc nc) (F : fc C [] Y h h') (hC : C.all (fun k => decide (k < 126 ∧ k ≠ 15 ∧ k ≠ 16 ∧ k ≠ 17 ∧ k ≠ 18 ∧ k ≠ 22 ∧ k ≠ 23 ∧ k ≠ 35)) = true) (hY : Y.all (fun q => decide (q.1 < 126 ∧ q.1 ≠ 12 ∧ (q.1 ≠ 19 ∨ q.2 < 2) ∧ (q.1 ≠ 21 ∨ q.2 ≠ 3) ∧ q.1 ≠ 34)) = true) : cVr h' w o bo sc tc nc := by
  have l := A.1.1
  have D := cVr0_fc A B F (List.all_eq_true.mpr (fun k hk => by have := List.all_eq_true.mp hC k hk; simp at this ⊢; omega)) (List.all_eq_true.mpr (fun k hk => by have := List.all_eq_true.mp hY k hk; simp at this ⊢; omega))
  refine ⟨D.1, D.2.1, D.2.2, cOq_fc B.2.2.2.1 F l ?_, cSq_fc B.2.2.2.2 F l ?_ ?_⟩
  · refine List.all_eq_true.mpr (fun f hf => ?_)
    have : (19, f) ∉ Y := fun z => by have := List.all_eq_true.mp hY (19, f) z; simp at this hf; omega
    simpa using this
  · refine List.all_eq_true.mpr (fun f hf => ?_)
    have : f ∉ C := fun z => by have := List.all_eq_true.mp hC f z; simp at this hf; omega
    simpa using this
  · have : (21, 3) ∉ Y := fun z => by have := List.all_eq_true.mp hY (21, 3) z; simp at this
    simpa using this
theorem cSz_fc {X : List Nat} {Y : List (Nat × Nat)} (Z : cSz h P c sc tc nc) (F : fr X Y h h') : cSz h' P (c + 1) sc tc nc := ⟨by have := Z.1; have := F.1.1; omega, by have := Z.2; have := F.1.2; rw [F.n, F.n, F.n]; omega⟩
def aTelling (w : zSt) : Int32 := oI (tlS (fun s => !((List.range (4 ^ wV w)).any (fun r => cbB (wN w) (wV w) r && (List.range (wV w)).all (fun v => !s.testBit v || decide (wf w (dg 4 (wV w) r) v = dg 4 (wV w) r v))))) (2 ^ wV w) 0 none)
theorem ck_any {s : Nat} : ((!((List.range (4 ^ V)).any (fun r => cbB N V r && (List.range V).all (fun v => !s.testBit v || decide (f (dg 4 V r) v = dg 4 V r v))))) = true) ↔ ¬ ckP N V f s := by
  rw [Bool.not_eq_true', ← Bool.not_eq_true]
  refine not_congr ?_
  rw [List.any_eq_true]
  constructor
  · rintro ⟨r, hr, z⟩
    rw [Bool.and_eq_true, List.all_eq_true] at z
    refine ⟨r, List.mem_range.mp hr, z.1, fun v hv hb => ?_⟩
    have := z.2 v (List.mem_range.mpr hv)
    rw [hb] at this
    simpa using this
  · rintro ⟨r, hr, z, y⟩
    refine ⟨r, List.mem_range.mpr hr, ?_⟩
    rw [Bool.and_eq_true, List.all_eq_true]
    refine ⟨z, fun v hv => ?_⟩
    cases hb : s.testBit v with
    | false => rfl
    | true => simpa using y v (List.mem_range.mp hv) hb
theorem r11_telling (A : cR h w P c) (H : ∀ h', fk h h' → cR h' w P (c + 1) → Q (some (.int (aTelling w))) h') : zC mX11_telling [.ref 0] h Q := by
  obtain ⟨O, t, t2, o, bo, sc, tc, nc, A, B, Z⟩ := A
  have OB := A.1.2.2.1
  refine nX11_telling _ _ _ (bX11_telling_0 _ _ _ ⟨OB.1, _, OB.2.1.2.2.2, _, OB.2.2.2.2.1, _, OB.2.2.2.1.1, B.1.1.1, q5_refresh A B O Z (fun h6 sc' tc' nc' F A6 B6 RF e8 Z6 => ⟨rfl, A6.1.2.2.1.1, _, A6.1.2.2.1.2.1.2.2.2, _, A6.1.2.2.1.2.2.2.2.1, B6.1.1.1, ?_⟩)⟩)
  have T6 : cT h6 t (wN w) (wV w) (wS w) (wW w) := A6.1.2.2.2.1.1
  exact s5_leastUnkept T6 B6.1.1.1 B6.1.1.2.2.1 B6.1.1.2.2.2.1 B6.1.1.2.2.2.2 RF.2.2.2 (fun s _ => ck_any) ⟨_, rfl, H h6 (fk_SC F) ⟨O, t, t2, o, bo, sc', tc', nc', A6, B6, Z6⟩⟩
theorem cR_up (A : cR h w P c) : cR h w P (c + 1) := by
  obtain ⟨O, t, t2, o, bo, sc, tc, nc, A, B, Z⟩ := A
  exact ⟨O, t, t2, o, bo, sc, tc, nc, A, B, cSz_up Z (Nat.le_succ _)⟩
theorem fk_rf : fk h h := ⟨[], [], fz.rf (Nat.le_refl _), fun _ z => (by cases z), fun _ z => (by cases z)⟩
/-- the marks, the hands of now -/
abbrev wM (w : zSt) : Nat → Nat := (wE w).2.1
abbrev wH (w : zSt) : List zHd := (wE w).2.2
theorem wM_3 {v : Nat} (O : stO w) (hv : v < wV w) : wM w v ≤ 3 := Nat.le_trans (O.2.2.1.2.2.1 v hv) (stO_N O)
theorem cR_fr {X : List Nat} {Y : List (Nat × Nat)} (O : stO w) (A : cFx h w t t2 o bo) (B : cVr h w o bo sc tc nc) (Z : cSz h P c sc tc nc) (F : fr X Y h h') (h1 : X.all (fun k => SC.contains k) = true) (h2 : Y.all (fun k => SY.contains k) = true) (h3 : X.all (fun k => decide (k < 126 ∧ k ≠ 15 ∧ k ≠ 16 ∧ k ≠ 17 ∧ k ≠ 18 ∧ k ≠ 22 ∧ k ≠ 23 ∧ k ≠ 35)) = true) (h4 : Y.all (fun q => decide (q.1 < 126 ∧ q.1 ≠ 12 ∧ (q.1 ≠ 19 ∨ q.2 < 2) ∧ (q.1 ≠ 21 ∨ q.2 ≠ 3) ∧ q.1 ≠ 34)) = true) : fk h h' ∧ cR h' w P (c + 1) := by
  have F0 : fc X [] Y h h' := fc_z (F.z (Nat.le_refl _)) (fun k z => Or.inl z)
  have F1 : fc SC [] SY h h' := fc_r F h1 h2
  exact ⟨fk_SC F1, O, t, t2, o, bo, sc, tc, nc, cFx_fc A F1, cVr_fc A B F0 h3 h4, cSz_fc Z F⟩
def aSays (w : zSt) (x : Int32) : Int32 := match ix x (wV w) with
  | some j => nI (wf w (wM w) j)
  | none => -1
def aLooks (w : zSt) (x : Int32) : Int32 := match ix x (wV w) with
  | some j => nI (lkN (wV w) (wS w) j (eN (wE w) j) (eD (wE w) j))
  | none => -1
def aHas (w : zSt) (x : Int32) : Int32 := match ix x (wV w) with
  | some j => nI (wM w j)
  | none => -1
def aJudge (w : zSt) : Int32 := oI (fsN (fun v => decide (wf w (wM w) v ≠ wM w v)) (wV w) 0)
theorem r11_says {x : Int32} (A : cR h w P c) (H : ∀ h', fk h h' → cR h' w P (c + 1) → Q (some (.int (aSays w x))) h') : zC mX11_says [.ref 0, .int x] h Q := by
  have A0 := A
  obtain ⟨O, t, t2, o, bo, sc, tc, nc, A, B, Z⟩ := A
  have OB := A.1.2.2.1
  have T : cT h t (wN w) (wV w) (wS w) (wW w) := A.1.2.2.2.1.1
  have V8 := stO_V O
  refine nX11_says _ _ _ _ (bX11_says_0 _ _ _ _ ⟨OB.1, _, OB.2.2.2.2.1, T.o, s10_hasVoter T (fun q => ⟨_, rfl, br_t rfl ?_⟩) (fun j hj ex => ⟨_, rfl, br_f (by decide +kernel) ⟨OB.1, _, OB.2.1.2.2.1, _, OB.2.2.2.1.1, A.2.2.1.1.1.1, ?_⟩⟩)⟩)
  · have : aSays w x = -1 := by unfold aSays; rw [ix_n (by omega) q]
    rw [← this]; exact H h fk_rf (cR_up A0)
  · subst ex
    have B8 := B.2.2.1.1 j (by omega)
    refine s1_ballotOf A.2.2.1.1.1 (by omega) ⟨_, rfl, _, rfl, OB.1, _, OB.2.2.2.1.1, A.2.2.1.1.1.1, _, OB.2.2.2.2.1, A.2.1.1.2.1, ?_⟩
    rw [A.2.2.1.1.2.2]
    refine s6_hear (V0 := wV w) A.2.1.1 T (fun v hv => wM_3 O hv) hj (Nat.le_refl _) B8.1 (O.2.2.1.1 j hj) (fun h6 F6 => ⟨_, rfl, ?_⟩)
    have fin := cR_fr O A B Z F6 (by decide) (by decide) (by decide) (by decide)
    have : aSays w (nI j) = nI (wf w (wM w) j) := by unfold aSays; rw [ix_s hj (by omega)]
    have := H h6 fin.1 fin.2
    rwa [‹aSays w (nI j) = _›] at this
theorem r11_looks {x : Int32} (A : cR h w P c) (H : ∀ h', fk h h' → cR h' w P (c + 1) → Q (some (.int (aLooks w x))) h') : zC mX11_looks [.ref 0, .int x] h Q := by
  have A0 := A
  obtain ⟨O, t, t2, o, bo, sc, tc, nc, A, B, Z⟩ := A
  have OB := A.1.2.2.1
  have T : cT h t (wN w) (wV w) (wS w) (wW w) := A.1.2.2.2.1.1
  have V8 := stO_V O
  have fin := H h fk_rf (cR_up A0)
  refine nX11_looks _ _ _ _ (bX11_looks_0 _ _ _ _ ⟨OB.1, _, OB.2.2.2.2.1, T.o, s10_hasVoter T (fun q => ⟨_, rfl, br_t rfl ?_⟩) (fun j hj ex => ⟨_, rfl, br_f (by decide +kernel) ⟨OB.1, _, OB.2.2.2.2.1, _, OB.2.2.2.1.1, A.2.2.1.1.1.1, ?_⟩⟩)⟩)
  · have e : aLooks w x = -1 := by unfold aLooks; rw [ix_n (by omega) q]
    rw [e] at fin; exact fin
  · subst ex
    have B8 := B.2.2.1.1 j (by omega)
    refine s1_ballotOf A.2.2.1.1.1 (by omega) ⟨_, rfl, _, rfl, T.o, s10_looksOf T hj B8.1 (fun L hL hb => ⟨_, rfl, ?_⟩)⟩
    have e : aLooks w (nI j) = nI L := by unfold aLooks; rw [ix_s hj (by omega), bN_of hL hb]; rfl
    rw [e] at fin; exact fin
theorem r11_has {x : Int32} (A : cR h w P c) (H : ∀ h', fk h h' → cR h' w P (c + 1) → Q (some (.int (aHas w x))) h') : zC mX11_has [.ref 0, .int x] h Q := by
  have A0 := A
  obtain ⟨O, t, t2, o, bo, sc, tc, nc, A, B, Z⟩ := A
  have OB := A.1.2.2.1
  have T : cT h t (wN w) (wV w) (wS w) (wW w) := A.1.2.2.2.1.1
  have V8 := stO_V O
  have fin := H h fk_rf (cR_up A0)
  refine nX11_has _ _ _ _ (bX11_has_0 _ _ _ _ ⟨OB.1, _, OB.2.2.2.2.1, T.o, s10_hasVoter T (fun q => ⟨_, rfl, br_t rfl ?_⟩) (fun j hj ex => ⟨_, rfl, br_f (by decide +kernel) ⟨OB.1, _, OB.2.2.2.2.1, _, OB.2.2.2.1.1, A.2.2.1.1.1.1, T.o, ?_⟩⟩)⟩)
  · have e : aHas w x = -1 := by unfold aHas; rw [ix_n (by omega) q]
    rw [e] at fin; exact fin
  · subst ex
    rw [A.2.2.1.1.2.2]
    refine s10_markOf T hj (fun v hv => wM_3 O hv) ⟨_, rfl, ?_⟩
    have e : aHas w (nI j) = nI (wM w j) := by unfold aHas; rw [ix_s hj (by omega)]
    rw [e] at fin; exact fin
theorem r11_judge (A : cR h w P c) (H : ∀ h', fk h h' → cR h' w P (c + 1) → Q (some (.int (aJudge w))) h') : zC mX11_judge [.ref 0] h Q := by
  obtain ⟨O, t, t2, o, bo, sc, tc, nc, A, B, Z⟩ := A
  have OB := A.1.2.2.1
  have T : cT h t (wN w) (wV w) (wS w) (wW w) := A.1.2.2.2.1.1
  have V8 := stO_V O
  refine nX11_judge _ _ _ (bX11_judge_0 _ _ _ ⟨OB.1, _, OB.2.1.2.2.1, _, OB.2.2.2.1.1, _, OB.2.2.2.2.1, T.o, A.2.2.1.1.1.1, A.2.1.1.2.1, ?_⟩)
  rw [A.2.2.1.1.2.2, T.e8]
  refine s6_firstBroken (R := [sc, tc, nc]) (cu := eU (wE w)) A.2.1.1 T A.2.2.1.1.1 (Nat.le_refl _) (fun v hv => wM_3 O hv) (fun v hv => ⟨(B.2.2.1.1 v (by omega)).1, O.2.2.1.1 v hv⟩) (fun v hv => O.2.2.1.2.2.1 v hv) (fun h6 F6 => ⟨_, rfl, ?_⟩)
  have fin := cR_fr O A B Z F6 (by decide) (by decide) (by decide) (by decide)
  exact H h6 fin.1 fin.2
end

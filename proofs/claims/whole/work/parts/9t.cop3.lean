/-! ===== the class's left, sure ===== -/
section
variable {h h' h1 h2 : zH} {Q : Option Value → zH → Prop} {t t2 sc tc nc P c N V : Nat} {o : Nat → Option Nat} {bo : Nat → Nat → Option Nat} {w w' : zSt} {x y z : Int32}
/-- the countings that agree with the hands at a time -/
def wA (w : zSt) (k : Int32) : List Nat := (wL w).filter (fun r => agB (wV w) k (wH w) (dg (wN w + 1) (wV w) r))
def aLeft (w : zSt) (k : Int32) : Int32 := nI (wA w k).length
def aSure (w : zSt) (x k : Int32) : Int32 := match ix x (wV w) with
  | some j => suF ((wA w k).map (fun r => dg (wN w + 1) (wV w) r j)) none
  | none => -1
theorem drop_c {l : List Nat} {k : Nat} (hk : k < l.length) : l.drop k = l.getD k 0 :: l.drop (k + 1) := by
  rw [List.drop_eq_getElem_cons hk, List.getD_eq_getElem?_getD, List.getElem?_eq_getElem hk]; rfl
theorem r11_left {k : Int32} (A : cR h w P c) (H : ∀ h', fk h h' → cR h' w P (c + 2) → Q (some (.int (aLeft w k))) h') : zC mX11_left [.ref 0, .int k] h Q := by
  obtain ⟨O, t, t2, o, bo, sc, tc, nc, A, B, Z⟩ := A
  have OB := A.1.2.2.1
  have hl := wL_len O
  refine nX11_left _ _ _ _ (bX11_left_0 _ _ _ _ ⟨OB.1, _, OB.2.1.2.2.2, _, OB.2.2.2.2.1, _, OB.2.2.2.1.1, B.1.1.1, q5_refresh A B O Z (fun h6 sc' tc' nc' F A6 B6 RF e8 Z6 => ⟨rfl, ?_⟩)⟩)
  have OB6 := A6.1.2.2.1
  have T6 : cT h6 t (wN w) (wV w) (wS w) (wW w) := A6.1.2.2.2.1.1
  have E6 := A6.2.2.1.1
  refine ⟨OB6.1, _, OB6.2.2.2.1.1, E6.1.1, _, E6.1.2.2.2.2.1, _, OB6.2.2.2.2.1, E6.2.1.1, s2_gather E6.2.1 O.2.2.1.2.2.2 T6 (fun bd h13 F13 g5 g6 b3 ag => ⟨_, rfl, br_f (by decide +kernel) ?_⟩) (fun h13 F13 ag => ⟨_, rfl, br_t rfl ?_⟩)⟩
  · have fin := cR_fr O A6 B6 Z6 F13 (by decide) (by decide) (by decide) (by decide)
    have fin2 := H h13 (fk_tr (fk_SC F) fin.1) fin.2
    have A13 : cFx h13 w t t2 o bo := cFx_fc (R := []) A6 (fc_r F13 (by decide) (by decide))
    have B13 := cVr_fc A6 B6 (fc_r (C := []) (Y := YG) F13 (by decide) (by decide)) (by decide) (by decide)
    have OB13 := A13.1.2.2.1
    have E13 := A13.2.2.1.1
    have n5 : gI h13 12 5 = nI (wL w).length := by rw [F13.gi (by decide)]; exact wL_n O RF
    have go : ∀ (d i cnt : Nat), i + d = (wL w).length → cnt ≤ i → cnt + (((wL w).drop i).filter (fun r => agB (wV w) k (wH w) (dg (wN w + 1) (wV w) r))).length = (wA w k).length → zX mX11_left 39 [.ref 0, .float 0, .int (nI cnt), .int (nI i)] [] h13 Q := by
      intro d
      induction d with
      | zero =>
        intro i cnt hi hc e
        have : i = (wL w).length := by omega
        subst this
        rw [List.drop_length] at e
        have e' : cnt = (wA w k).length := e
        refine bX11_left_39 _ _ _ _ _ ⟨OB13.1, _, OB13.2.1.2.2.2, B13.1.1.1, br_t (by rw [n5]; exact nI_le (Nat.le_refl _) (by omega)) ?_⟩
        rw [e']; exact fin2
      | succ d ih =>
        intro i cnt hi hc e
        have hil : i < (wL w).length := by omega
        obtain ⟨m1, m2⟩ := wL_mk O RF hil
        rw [drop_c hil] at e
        refine bX11_left_39 _ _ _ _ _ ⟨OB13.1, _, OB13.2.1.2.2.2, B13.1.1.1, br_f (by rw [n5]; exact nI_ge hil (by omega)) ⟨_, OB13.2.2.2.1.1, E13.1.1, _, E13.1.2.2.2.2.1, _, B13.1.2.2.1.1, ?_⟩⟩
        refine s11_atN B13.1.2.2.1.2.1 rfl (by rw [F13.n]; exact m2) (by have := B13.1.2.2.1.2.2.2; omega) ⟨_, rfl, E13.2.1.1, ?_⟩
        rw [F13.i (by simp), m1]
        refine s2_agreeWith (stO_V O) E13.2.1.1 g5 g6 b3 (fun v _ => wd_3 O) (fun q => ⟨_, rfl, br_f (by decide +kernel) ?_⟩) (fun q => ⟨_, rfl, br_t rfl ?_⟩)
        · have qa := (ag _).mpr q
          rw [nI_1, nI_1]
          rw [List.filter_cons, if_pos qa, List.length_cons] at e
          exact ih (i + 1) (cnt + 1) (by omega) (by omega) (by omega)
        · rw [nI_1]
          rw [List.filter_cons, if_neg (fun y => q ((ag _).mp y))] at e
          exact ih (i + 1) cnt (by omega) (by omega) e
    exact go (wL w).length 0 0 (by omega) (Nat.le_refl _) (by rw [List.drop_zero, Nat.zero_add]; rfl)
  · have fin := cR_fr O A6 B6 Z6 F13 (by decide) (by decide) (by decide) (by decide)
    have fin2 := H h13 (fk_tr (fk_SC F) fin.1) fin.2
    have e : aLeft w k = 0 := by
      unfold aLeft wA
      rw [List.filter_eq_nil_iff.mpr (fun r _ => by rw [ag]; decide)]; rfl
    rw [e] at fin2; exact fin2
theorem suF_c {m a : Nat} {l : List Nat} : suF (a :: l) (some m) = if m = a then suF l (some a) else -2 := by
  show (if decide (m = a) = true then suF l (some a) else -2) = _
  by_cases q : m = a
  · rw [if_pos q, if_pos (decide_eq_true q)]
  · rw [if_neg q, if_neg (fun z => q (of_decide_eq_true z))]
theorem r11_sure {k : Int32} (A : cR h w P c) (H : ∀ h', fk h h' → cR h' w P (c + 2) → Q (some (.int (aSure w x k))) h') : zC mX11_sure [.ref 0, .int x, .int k] h Q := by
  obtain ⟨O, t, t2, o, bo, sc, tc, nc, A, B, Z⟩ := A
  have OB := A.1.2.2.1
  have hl := wL_len O
  have V8 := stO_V O
  refine nX11_sure _ _ _ _ _ (bX11_sure_0 _ _ _ _ _ ⟨OB.1, _, OB.2.1.2.2.2, _, OB.2.2.2.2.1, _, OB.2.2.2.1.1, B.1.1.1, q5_refresh A B O Z (fun h6 sc' tc' nc' F A6 B6 RF e8 Z6 => ⟨rfl, ?_⟩)⟩)
  have OB6 := A6.1.2.2.1
  have T6 : cT h6 t (wN w) (wV w) (wS w) (wW w) := A6.1.2.2.2.1.1
  have E6 := A6.2.2.1.1
  refine ⟨OB6.1, _, OB6.2.2.2.2.1, T6.o, s10_hasVoter T6 (fun q => ⟨_, rfl, br_t rfl ?_⟩) (fun j hj ex => ⟨_, rfl, br_f (by decide +kernel) ⟨OB6.1, _, OB6.2.2.2.1.1, E6.1.1, _, E6.1.2.2.2.2.1, _, OB6.2.2.2.2.1, E6.2.1.1, s2_gather E6.2.1 O.2.2.1.2.2.2 T6 (fun bd h13 F13 g5 g6 b3 ag => ⟨_, rfl, br_f (by decide +kernel) ?_⟩) (fun h13 F13 ag => ⟨_, rfl, br_t rfl ?_⟩)⟩⟩)⟩
  · have e : aSure w x k = -1 := by unfold aSure; rw [ix_n (by omega) q]
    have := H h6 (fk_SC F) ⟨O, t, t2, o, bo, sc', tc', nc', A6, B6, cSz_up Z6 (Nat.le_succ _)⟩
    rw [e] at this; exact this
  · have fin := cR_fr O A6 B6 Z6 F13 (by decide) (by decide) (by decide) (by decide)
    have fin2 := H h13 (fk_tr (fk_SC F) fin.1) fin.2
    have es : aSure w x k = suF ((wA w k).map (fun r => dg (wN w + 1) (wV w) r j)) none := by unfold aSure; rw [ex, ix_s hj (by omega)]
    rw [es] at fin2
    have A13 : cFx h13 w t t2 o bo := cFx_fc (R := []) A6 (fc_r F13 (by decide) (by decide))
    have B13 := cVr_fc A6 B6 (fc_r (C := []) (Y := YG) F13 (by decide) (by decide)) (by decide) (by decide)
    have OB13 := A13.1.2.2.1
    have T13 : cT h13 t (wN w) (wV w) (wS w) (wW w) := A13.1.2.2.2.1.1
    have E13 := A13.2.2.1.1
    have n5 : gI h13 12 5 = nI (wL w).length := by rw [F13.gi (by decide)]; exact wL_n O RF
    have go : ∀ (d i : Nat) (its : Option Nat), i + d = (wL w).length → (∀ m, its = some m → m ≤ 3) → suF ((((wL w).drop i).filter (fun r => agB (wV w) k (wH w) (dg (wN w + 1) (wV w) r))).map (fun r => dg (wN w + 1) (wV w) r j)) its = suF ((wA w k).map (fun r => dg (wN w + 1) (wV w) r j)) none → zX mX11_sure 51 [.ref 0, .int x, .float 0, .int (oI its), .int (nI i), .float 0, .float 0] [] h13 Q := by
      intro d
      induction d with
      | zero =>
        intro i its hi h3 e
        have : i = (wL w).length := by omega
        subst this
        rw [List.drop_length] at e
        have e' : oI its = suF ((wA w k).map (fun r => dg (wN w + 1) (wV w) r j)) none := e
        refine bX11_sure_51 _ _ _ _ _ _ ⟨OB13.1, _, OB13.2.1.2.2.2, B13.1.1.1, br_t (by rw [n5]; exact nI_le (Nat.le_refl _) (by omega)) ?_⟩
        rw [e']; exact fin2
      | succ d ih =>
        intro i its hi h3 e
        have hil : i < (wL w).length := by omega
        obtain ⟨m1, m2⟩ := wL_mk O RF hil
        rw [drop_c hil] at e
        refine bX11_sure_51 _ _ _ _ _ _ ⟨OB13.1, _, OB13.2.1.2.2.2, B13.1.1.1, br_f (by rw [n5]; exact nI_ge hil (by omega)) ⟨_, B13.1.2.2.1.1, ?_⟩⟩
        refine s11_atN B13.1.2.2.1.2.1 rfl (by rw [F13.n]; exact m2) (by have := B13.1.2.2.1.2.2.2; omega) ⟨_, rfl, OB13.1, _, OB13.2.2.2.1.1, E13.1.1, _, E13.1.2.2.2.2.1, E13.2.1.1, ?_⟩
        rw [F13.i (by simp), m1]
        refine s2_agreeWith V8 E13.2.1.1 g5 g6 b3 (fun v _ => wd_3 O) (fun q => ⟨_, rfl, br_f (by decide +kernel) ⟨OB13.1, _, OB13.2.2.2.2.1, T13.o, ?_⟩⟩) (fun q => ⟨_, rfl, br_t rfl ?_⟩)
        · have qa := (ag _).mpr q
          rw [List.filter_cons, if_pos qa, List.map_cons] at e
          rw [ex]
          refine s10_markOf T13 hj (fun v _ => wd_3 O) ⟨_, rfl, ?_⟩
          rw [nI_1, ← ex]
          have d3 : dg (wN w + 1) (wV w) ((wL w).getD i 0) j ≤ 3 := wd_3 O
          have nx : suF ((((wL w).drop (i + 1)).filter (fun r => agB (wV w) k (wH w) (dg (wN w + 1) (wV w) r))).map (fun r => dg (wN w + 1) (wV w) r j)) (some (dg (wN w + 1) (wV w) ((wL w).getD i 0) j)) = suF ((wA w k).map (fun r => dg (wN w + 1) (wV w) r j)) none → zX mX11_sure 51 [.ref 0, .int x, .float 0, .int (nI (dg (wN w + 1) (wV w) ((wL w).getD i 0) j)), .int (nI (i + 1)), .float 0, .float 0] [] h13 Q := fun y => ih (i + 1) (some _) (by omega) (fun m hm => by cases hm; exact d3) y
          cases its with
          | none => exact br_t rfl (nx e)
          | some m =>
            have m3 := h3 m rfl
            refine br_f (fun y => absurd (show nI m < 0 by rw [show nI m = -1 from y]; decide) (nI_pos (by omega))) ?_
            show (nI m = _ → _) ∧ (¬ nI m = _ → _)
            rw [nI_eq (by omega) (by omega)]
            refine ⟨fun y => nx ?_, fun y => ?_⟩
            · have e1 := (suF_c (m := m)).symm.trans e
              rw [if_pos y] at e1
              exact e1
            · have e1 := (suF_c (m := m)).symm.trans e
              rw [if_neg y] at e1
              rw [e1]; exact fin2
        · rw [nI_1]
          rw [List.filter_cons, if_neg (fun y => q ((ag _).mp y))] at e
          exact ih (i + 1) its (by omega) h3 e
    exact go (wL w).length 0 none (by omega) (fun m hm => by cases hm) (by rw [List.drop_zero]; rfl)
  · have fin := cR_fr O A6 B6 Z6 F13 (by decide) (by decide) (by decide) (by decide)
    have fin2 := H h13 (fk_tr (fk_SC F) fin.1) fin.2
    have e : aSure w x k = -1 := by
      unfold aSure
      rw [ex, ix_s hj (by omega)]
      unfold wA
      rw [List.filter_eq_nil_iff.mpr (fun r _ => by rw [ag]; decide)]; rfl
    rw [e] at fin2; exact fin2
end

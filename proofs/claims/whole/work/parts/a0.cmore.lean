/-! ===== the class's more ===== -/
section
variable {h h' h1 h2 : zH} {Q : Option Value → zH → Prop} {t t2 sc tc nc P c : Nat} {o : Nat → Option Nat} {bo : Nat → Nat → Option Nat} {w : zSt} {x y : Int32}
/-- all say their own in a row of the class's, with one voter more -/
def cmB (w : zSt) (its m r : Nat) : Bool := (List.range (wV w)).all (fun v => decide (sayF (wV w + 1) (wN w) (ud (wS w) (wV w) its) (ud (wW w) (wV w) 1) (ud (dg 4 (wV w) r) (wV w) m) v (eN (wE w) v) (eD (wE w) v) = dg 4 (wV w) r v))
def aMore (w : zSt) (x y : Int32) : Int32 := match ix x (wK w).2.1.1, ix y (wN w + 1) with
  | some its, some m => if wV w = 8 then -1 else nI ((List.range' 0 ((wN w + 1) ^ wV w)).filter (mrB (wN w) (wV w) (wS w) (wW w) (eN (wE w)) (eD (wE w)) its m)).length
  | _, _ => -1
theorem cm_len (O : stO w) {its m : Nat} : ((List.range' 0 (4 ^ wV w)).filter (fun r => cbB (wN w) (wV w) r && cmB w its m r)).length = ((List.range' 0 ((wN w + 1) ^ wV w)).filter (mrB (wN w) (wV w) (wS w) (wW w) (eN (wE w)) (eD (wE w)) its m)).length := by
  rw [← List.range_eq_range', ← List.range_eq_range', rows_filter (stO_N O) (wV w) (cmB w its m), List.length_map]
  congr 1
  refine List.filter_congr (fun r _ => ?_)
  have e := dg_cr (V := wV w) (r := r) (stO_N O)
  unfold cmB mrB
  rw [Bool.eq_iff_iff]
  simp only [List.all_eq_true, List.mem_range, decide_eq_true_eq]
  have ec : ∀ v, v < wV w → sayF (wV w + 1) (wN w) (ud (wS w) (wV w) its) (ud (wW w) (wV w) 1) (ud (dg 4 (wV w) (crF (wN w) (wV w) r)) (wV w) m) v (eN (wE w) v) (eD (wE w) v) = sayF (wV w + 1) (wN w) (ud (wS w) (wV w) its) (ud (wW w) (wV w) 1) (ud (dg (wN w + 1) (wV w) r) (wV w) m) v (eN (wE w) v) (eD (wE w) v) := fun v hv => sayF_congr (V' := wV w) (Nat.le_succ _) (O.2.2.1.1 v hv) (fun i hi => by
    unfold ud
    by_cases q : i = wV w
    · rw [if_pos q, if_pos q]
    · rw [if_neg q, if_neg q, e i (by omega)])
  constructor
  · intro z v hv; rw [← ec v hv, ← e v hv]; exact z v hv
  · intro z v hv; rw [ec v hv, e v hv]; exact z v hv
theorem r11_more (A : cR h w P c) (H : ∀ h', fk h h' → cR h' w P (c + 1) → Q (some (.int (aMore w x y))) h') : zC mX11_more [.ref 0, .int x, .int y] h Q := by
  have A0 := A
  obtain ⟨O, t, t2, o, bo, sc, tc, nc, A, B, Z⟩ := A
  have OB := A.1.2.2.1
  have T : cT h t (wN w) (wV w) (wS w) (wW w) := A.1.2.2.2.1.1
  have V8 := stO_V O
  have N3 := stO_N O
  have s4 : (wK w).2.1.1 ≤ 4 := O.1.2.1.1
  have ht : t = 70 ∨ t = 77 := by have := A.1.2.1; omega
  have g7 : gI h t 7 = nI (wK w).2.1.1 := A.1.2.2.2.1.2.1.2.2.1.2.2.2.1
  have fin0 := H h fk_rf (cR_up A0)
  have no : aMore w x y = -1 → zX mX11_more 30 [.ref 0, .int x, .int y, .float 0, .float 0, .float 0, .float 0] [] h Q := fun e => by
    rw [e] at fin0
    exact bX11_more_30 _ _ _ _ _ (bX11_more_31 _ _ _ _ _ _ (br_t rfl fin0))
  refine nX11_more _ _ _ _ _ (bX11_more_0 _ _ _ _ _ ⟨fun q => no ?_, fun q => ⟨OB.1, _, OB.2.2.2.2.1, T.o, ?_⟩⟩)
  · unfold aMore; rw [ix_n (by omega) (Or.inl q)]
  rw [g7]
  refine ⟨fun q1 => no ?_, fun q1 => s10_hasMark T (fun q2 => ⟨_, rfl, br_t rfl (no ?_)⟩) (fun m hm ey => ⟨_, rfl, br_f (by decide +kernel) (bX11_more_31 _ _ _ _ _ _ (br_f (by decide +kernel) ⟨OB.1, _, OB.2.2.2.2.1, T.o, ?_⟩))⟩)⟩
  · unfold aMore; rw [ix_n (by omega) (Or.inr q1)]
  · unfold aMore; rw [ix_nx (by omega) q2]; cases ix x (wK w).2.1.1 <;> rfl
  obtain ⟨its, hi31, rfl⟩ := nI_of q
  rw [nI_leI (by omega) hi31] at q1
  subst ey
  have hi : its < (wK w).2.1.1 := by omega
  have em : aMore w (nI its) (nI m) = if wV w = 8 then -1 else nI ((List.range' 0 ((wN w + 1) ^ wV w)).filter (mrB (wN w) (wV w) (wS w) (wW w) (eN (wE w)) (eD (wE w)) its m)).length := by unfold aMore; rw [ix_s hi (by omega), ix_s (Nat.lt_succ_of_le hm) (by omega)]
  rw [T.e8, nI_lit 8, nI_ltI (by omega) (by decide)]
  refine ⟨fun v8 => ⟨_, OB.2.2.1.2.2.2, A.2.1.2.2.2.2.1.1.1, s10_becomeWider A.2.1.2.2.2.2.1.1 T ht v8 (by omega) (fun h8 F8 T26 => ⟨rfl, ?_⟩)⟩, fun v8 => ?_⟩
  · rw [em, if_neg (by omega), ← cm_len O] at H
    have p4 : 4 ^ wV w ≤ 65536 := Nat.le_trans (Nat.pow_le_pow_right (by decide) V8) (by decide)
    have go : ∀ (d i cnt : Nat) (h0 : zH), i + d = 4 ^ wV w → cnt + ((List.range' i d).filter (fun r => cbB (wN w) (wV w) r && cmB w its m r)).length = ((List.range' 0 (4 ^ wV w)).filter (fun r => cbB (wN w) (wV w) r && cmB w its m r)).length → fr [11, 30, 31] [(10, 1), (26, 6), (26, 8)] h h0 → cT h0 26 (wN w) (wV w + 1) (ud (wS w) (wV w) its) (ud (wW w) (wV w) 1) → zX mX11_more 81 [.ref 0, .float 0, .int (nI m), .float 0, .int (nI cnt), .int (nI (4 ^ wV w)), .int (nI i)] [] h0 Q := by
      intro d
      induction d with
      | zero =>
        intro i cnt h0 hid e F T0
        have : i = 4 ^ wV w := by omega
        subst this
        have e' : cnt = ((List.range' 0 (4 ^ wV w)).filter (fun r => cbB (wN w) (wV w) r && cmB w its m r)).length := e
        have fin := cR_fr O A B Z F (by decide) (by decide) (by decide) (by decide)
        refine bX11_more_81 _ _ _ _ _ _ _ (br_t (nI_le (Nat.le_refl _) (by omega)) ?_)
        rw [e']; exact H h0 fin.1 fin.2
      | succ d ih =>
        intro i cnt h0 hid e F T0
        have hil : i < 4 ^ wV w := by omega
        have A2 : cFx h0 w t t2 o bo := cFx_fc (R := []) A (fc_r F (by decide) (by decide))
        have B2 := cVr_fc A B (fc_r (C := [11, 30, 31]) (Y := [(10, 1), (26, 6), (26, 8)]) F (by decide) (by decide)) (by decide) (by decide)
        have OB2 := A2.1.2.2.1
        have T2 : cT h0 t (wN w) (wV w) (wS w) (wW w) := A2.1.2.2.2.1.1
        rw [flt_s] at e
        refine bX11_more_81 _ _ _ _ _ _ _ (br_f (nI_ge hil (by omega)) ⟨OB2.1, _, OB2.2.2.2.2.1, T2.o, ?_⟩)
        refine s10_canBe T2 hil (fun cb => ⟨_, rfl, br_f (by decide +kernel) ⟨OB2.1, _, OB2.2.1.2.2.1, _, OB2.2.2.2.1.1, _, OB2.2.2.2.2.1, T2.o, _, OB2.2.2.1.2.2.2, A2.2.1.1.2.1, ?_⟩⟩) (fun cb => ⟨_, rfl, br_t rfl ?_⟩)
        · have cb1 : cbB (wN w) (wV w) i = true := List.all_eq_true.mpr (fun v hv => decide_eq_true (cb v (List.mem_range.mp hv)))
          rw [T2.e8]
          have ef : ∀ v, v < wV w → ud (dg 4 (wV w) i) (wV w) m v = dg 4 (wV w) i v := fun v hv => by unfold ud; rw [if_neg (by omega)]
          have ee : (nI i <<< ((2 : Int32) &&& 31)) ||| nI m = nI (en 4 (wV w + 1) (ud (dg 4 (wV w) i) (wV w) m)) := by
            rw [show (2 : Int32) &&& 31 = nI 2 &&& 31 from rfl, nI_shl (n := i) (k := 2) (by decide) (by omega), nI_or, en, en_congr ef, en_dg (by decide) hil, show ud (dg 4 (wV w) i) (wV w) m (wV w) = m by unfold ud; rw [if_pos rfl]]
            have := Nat.shiftLeft_add_eq_or_of_lt (i := 2) (b := m) (show m < 2 ^ 2 by omega) i
            rw [Nat.shiftLeft_eq] at this
            rw [← this]
          rw [ee]
          have mk3 : ∀ v, v < wV w + 1 → ud (dg 4 (wV w) i) (wV w) m v ≤ wN w := fun v hv => by
            unfold ud
            by_cases q : v = wV w
            · rw [if_pos q]; exact hm
            · rw [if_neg q]; exact cb v (by omega)
          refine s6_firstBroken (R := [sc, tc, nc]) (V0 := wV w) (cu := eU (wE w)) A2.2.1.1 T0 A2.2.2.1.1.1 (Nat.le_succ _) (fun v hv => Nat.le_trans (mk3 v hv) N3) (fun v hv => ⟨(B2.2.2.1.1 v (by omega)).1, O.2.2.1.1 v hv⟩) mk3 (fun h6 F6 => ⟨_, rfl, ?_⟩)
          have FF : fr [11, 30, 31] [(10, 1), (26, 6), (26, 8)] h h6 := F.tr (F6.mo (by simp) (by simp))
          have T6 := T0.fr F6 (by decide)
          have key : cmB w its m i = true ↔ fsN (fun v => decide (sayF (wV w + 1) (wN w) (ud (wS w) (wV w) its) (ud (wW w) (wV w) 1) (ud (dg 4 (wV w) i) (wV w) m) v (eN (wE w) v) (eD (wE w) v) ≠ ud (dg 4 (wV w) i) (wV w) m v)) (wV w) 0 = none := by
            rw [fsN_none]
            unfold cmB
            rw [List.all_eq_true]
            constructor
            · intro z v _ hv
              have := of_decide_eq_true (z v (List.mem_range.mpr (by omega)))
              rw [ef v (by omega)]
              exact decide_eq_false (fun y => y this)
            · intro z v hv
              have hv' := List.mem_range.mp hv
              have := of_decide_eq_false (z v (Nat.zero_le _) (by omega))
              rw [ef v hv'] at this
              exact decide_eq_true (Decidable.not_not.mp this)
          cases hz : fsN (fun v => decide (sayF (wV w + 1) (wN w) (ud (wS w) (wV w) its) (ud (wW w) (wV w) 1) (ud (dg 4 (wV w) i) (wV w) m) v (eN (wE w) v) (eD (wE w) v) ≠ ud (dg 4 (wV w) i) (wV w) m v)) (wV w) 0 with
          | none =>
            rw [show (cbB (wN w) (wV w) i && cmB w its m i) = true by rw [cb1, key.mpr hz]; rfl] at e
            refine br_t rfl ?_
            rw [nI_1, nI_1]
            exact ih (i + 1) (cnt + 1) h6 (by omega) (by simp at e ⊢; omega) FF T6
          | some k =>
            have nk : ¬ cmB w its m i = true := fun z => by rw [key.mp z] at hz; cases hz
            rw [show (cbB (wN w) (wV w) i && cmB w its m i) = false by rw [cb1, Bool.eq_false_iff.mpr nk]; rfl] at e
            have k8 := (fsN_lt hz).2.1
            refine br_f (fun y => absurd (show nI k < 0 by rw [show nI k = -1 from y]; decide) (nI_pos (by omega))) ?_
            rw [nI_1]
            exact ih (i + 1) cnt h6 (by omega) (by simp at e ⊢; omega) FF T6
        · have cb0 : cbB (wN w) (wV w) i = false := Bool.eq_false_iff.mpr (fun z => cb (fun v hv => of_decide_eq_true (List.all_eq_true.mp z v (List.mem_range.mpr hv))))
          rw [show (cbB (wN w) (wV w) i && cmB w its m i) = false by rw [cb0]; rfl] at e
          rw [nI_1]
          exact ih (i + 1) cnt h0 (by omega) (by simp at e ⊢; omega) F T0
    have F8' : fr [11, 30, 31] [(10, 1), (26, 6), (26, 8)] h h8 := F8.mo (by simp) (by simp)
    have A8 : cFx h8 w t t2 o bo := cFx_fc (R := []) A (fc_r F8' (by decide) (by decide))
    have OB8 := A8.1.2.2.1
    have T8 : cT h8 t (wN w) (wV w) (wS w) (wW w) := A8.1.2.2.2.1.1
    refine ⟨OB8.1, _, OB8.2.2.2.2.1, T8.o, ?_⟩
    rw [T8.e8, e4V V8]
    exact go (4 ^ wV w) 0 0 h8 (by omega) (by omega) F8' T26
  · rw [em, if_pos (by omega)] at fin0; exact fin0
end

/-! ===== the class's rest, soonest, sway ===== -/
section
variable {h h' h1 h2 : zH} {Q : Option Value → zH → Prop} {t t2 sc tc nc P c N V : Nat} {o : Nat → Option Nat} {bo : Nat → Nat → Option Nat} {w w' : zSt} {x y z : Int32}
def aRest (w : zSt) (x : Int32) : Int32 := if x < 0 then -2 else if mO x.toNatClampNeg (wV w) (wV w) 0 0 = true then oI (rsO (wf w) (ordF x.toNatClampNeg (wV w)) (wV w)) else -2
theorem rows_sz (O : stO w) (B : cVr h w o bo sc tc nc) : aN h sc ≤ 65536 := by
  obtain ⟨-, ⟨-, -, -, kk, hkk, n2⟩, -⟩ := B.1
  rw [n2]
  exact Nat.le_trans (Nat.pow_le_pow_right (by decide) hkk) (by decide)
theorem r11_rest (A : cR h w P c) (H : ∀ h', fk h h' → cR h' w P (c + 2) → Q (some (.int (aRest w x))) h') : zC mX11_rest [.ref 0, .int x] h Q := by
  obtain ⟨O, t, t2, o, bo, sc, tc, nc, A, B, Z⟩ := A
  have OB := A.1.2.2.1
  have T : cT h t (wN w) (wV w) (wS w) (wW w) := A.1.2.2.2.1.1
  have V8 := stO_V O
  have N3 := stO_N O
  refine nX11_rest _ _ _ _ (bX11_rest_0 _ _ _ _ ⟨OB.1, _, OB.2.2.1.1, _, OB.2.2.2.2.1, T.o, A.2.1.2.2.1.1, ?_⟩)
  rw [T.e8]
  refine s3_take A.2.1.2.2.1 V8 (fun n h6 ex n31 m1 F6 G6 U6 => ⟨_, rfl, br_f (by decide +kernel) ?_⟩) (fun h6 F6 q => ⟨_, rfl, br_t rfl ?_⟩)
  · have F6c : fc [20] [] [(19, 1)] h h6 := fc_r F6 (by decide) (by decide)
    have A6 : cFx h6 w t t2 o bo := cFx_fc (R := []) A (fc_r F6 (by decide) (by decide))
    have B6 := cVr_fc A B F6c (by decide) (by decide)
    have Z6 := cSz_fc Z F6
    have OB6 := A6.1.2.2.1
    refine ⟨OB6.1, _, OB6.2.1.2.2.2, _, OB6.2.2.2.2.1, _, OB6.2.2.2.1.1, B6.1.1.1, q5_refresh A6 B6 O Z6 (fun h14 sc' tc' nc' F A14 B14 RF e8 Z14 => ⟨rfl, ?_⟩)⟩
    have OB14 := A14.1.2.2.1
    have l6 := A6.1.1
    have fin := H h14 (fk_tr (fk_SC F6c) (fk_SC F)) ⟨O, t, t2, o, bo, sc', tc', nc', A14, B14, Z14⟩
    refine ⟨OB14.1, _, OB14.2.2.1.1, _, OB14.2.1.2.2.2, B14.1.1.1, _, B14.1.2.1.1, A14.2.1.2.2.1.1, ?_⟩
    refine s3_roundsToRest (N := wN w) (V := wV w) (p := ordF n (wV w)) A14.2.1.2.2.1 (fun i hi => by rw [F.i l6 (by decide) (by decide)]; exact U6 i hi) (by rw [F.gi l6 (by decide) (by decide)]; exact G6) V8 N3 (fun i hi => ordF_lt m1 hi) (wf_C O) (wf_N O) B14.1.2.1.2.1 RF.1.1 (rows_sz O B14) RF.1.2 (by decide) ⟨_, rfl, ?_⟩
    have e : aRest w x = oI (rsO (wf w) (ordF n (wV w)) (wV w)) := by
      unfold aRest
      rw [ex, if_neg (nI_pos (by omega)), nI_clamp (by omega), if_pos m1]
    rw [e] at fin
    exact fin
  · have fin := cR_fr O A B Z F6 (by decide) (by decide) (by decide) (by decide)
    have e : aRest w x = -2 := by
      unfold aRest
      rcases q with q | ⟨n, rfl, n31, m1⟩
      · rw [if_pos q]
      · rw [if_neg (nI_pos (by omega)), nI_clamp (by omega), if_neg (by rw [m1]; decide)]
    have := H h6 fin.1 (cR_up fin.2)
    rw [e] at this; exact this
def aSoonest (w : zSt) (x : Int32) : Int32 := if x = 0 ∨ x = 1 then soA (soF (wf w) (wV w)) x else -1
theorem soA_1 {b : Option (Nat × Nat)} (hx : ¬ x = 0) : soA b x = soA b 1 := by
  cases b with
  | none => rfl
  | some q => show (if x = 0 then nI q.1 else nI q.2) = (if (1 : Int32) = 0 then nI q.1 else nI q.2); rw [if_neg hx, if_neg (by decide)]
theorem r11_soonest (A : cR h w P c) (H : ∀ h', fk h h' → cR h' w P (c + 2) → Q (some (.int (aSoonest w x))) h') : zC mX11_soonest [.ref 0, .int x] h Q := by
  have A0 := A
  obtain ⟨O, t, t2, o, bo, sc, tc, nc, A, B, Z⟩ := A
  have OB := A.1.2.2.1
  have V8 := stO_V O
  have N3 := stO_N O
  have main : (x = 0 ∨ x = 1) → zX mX11_soonest 11 [.ref 0, .int x] [] h Q := fun q => by
    have e : aSoonest w x = soA (soF (wf w) (wV w)) x := if_pos q
    refine bX11_soonest_11 _ _ _ _ ⟨OB.1, _, OB.2.2.1.1, A.2.1.2.2.1.1, fun g => ⟨_, OB.2.1.2.2.2, _, OB.2.2.2.2.1, _, OB.2.2.2.1.1, B.1.1.1, q5_refresh A B O Z (fun h9 sc' tc' nc' F A9 B9 RF e8 Z9 => ⟨rfl, ?_⟩)⟩, fun g => ?_⟩
    · have OB9 := A9.1.2.2.1
      have T9 : cT h9 t (wN w) (wV w) (wS w) (wW w) := A9.1.2.2.2.1.1
      refine ⟨OB9.1, _, OB9.2.2.1.1, _, OB9.2.1.2.2.2, B9.1.1.1, _, B9.1.2.1.1, _, OB9.2.2.2.2.1, T9.o, A9.2.1.2.2.1.1, ?_⟩
      rw [T9.e8]
      refine s3_search (N := wN w) (f := wf w) A9.2.1.2.2.1 V8 N3 (wf_C O) (wf_N O) B9.1.2.1.2.1 RF.1.1 (rows_sz O B9) (by obtain ⟨-, ⟨-, -, cc, -⟩, -⟩ := B9.1; omega) RF.1.2 (fun h18 F18 g4 g2 g3 => ⟨rfl, ?_⟩)
      have F18c : fc [20] [] [(19, 1), (19, 2), (19, 3), (19, 4)] h9 h18 := fc_r F18 (by decide) (by decide)
      have A18 : cFx h18 w t t2 o bo := cFx_fc (R := []) A9 (fc_r F18 (by decide) (by decide))
      have D := cVr0_fc A9 B9 F18c (by decide) (by decide)
      have B18 : cVr h18 w o bo sc' tc' nc' := ⟨D.1, D.2.1, D.2.2, Or.inr ⟨g4, g2, g3⟩, cSq_fc B9.2.2.2.2 F18c A9.1.1 (by decide) (by decide)⟩
      have fin := H h18 (fk_tr (fk_SC F) (fk_SC F18c)) ⟨O, t, t2, o, bo, sc', tc', nc', A18, B18, cSz_fc Z9 F18⟩
      rw [e] at fin
      have OB18 := A18.1.2.2.1
      refine ⟨fun y => ⟨OB18.1, _, OB18.2.2.1.1, A18.2.1.2.2.1.1, ?_⟩, fun y => ⟨OB18.1, _, OB18.2.2.1.1, A18.2.1.2.2.1.1, ?_⟩⟩
      · rw [g2, ← y]; exact fin
      · rw [g3, ← soA_1 y]; exact fin
    · have fin := H h fk_rf (cR_up (cR_up A0))
      rw [e] at fin
      rcases B.2.2.2.1 with g' | ⟨-, g2, g3⟩
      · exact absurd g' g
      · exact ⟨fun y => by rw [g2, ← y]; exact fin, fun y => by rw [g3, ← soA_1 y]; exact fin⟩
  refine nX11_soonest _ _ _ _ (bX11_soonest_0 _ _ _ _ ⟨fun q => main (Or.inl q), fun q0 => ⟨fun q => main (Or.inr q), fun q1 => ?_⟩⟩)
  have e : aSoonest w x = -1 := if_neg (fun z => z.elim q0 q1)
  have fin := H h fk_rf (cR_up (cR_up A0))
  rw [e] at fin; exact fin
def aSway (w : zSt) (x y : Int32) : Int32 := match ix x (wN w) with
  | some j => if y = 0 ∨ y = 1 ∨ y = 2 then swA (swF (wN w) (wV w) (wf w) (wS w) (wW w) j) y else -1
  | none => -1
theorem r11_sway (A : cR h w P c) (H : ∀ h', fk h h' → cR h' w P (c + 2) → Q (some (.int (aSway w x y))) h') : zC mX11_sway [.ref 0, .int x, .int y] h Q := by
  have A0 := A
  obtain ⟨O, t, t2, o, bo, sc, tc, nc, A, B, Z⟩ := A
  have OB := A.1.2.2.1
  have T : cT h t (wN w) (wV w) (wS w) (wW w) := A.1.2.2.2.1.1
  have V8 := stO_V O
  have N3 := stO_N O
  have ht : t = 70 ∨ t = 77 := by have := A.1.2.1; omega
  have fin0 := H h fk_rf (cR_up (cR_up A0))
  refine nX11_sway _ _ _ _ _ (bX11_sway_0 _ _ _ _ _ ⟨OB.1, _, OB.2.2.2.2.1, T.o, s10_hasName T (fun q => ⟨_, rfl, br_t rfl ?_⟩) (fun j hj ex => ⟨_, rfl, br_f (by decide +kernel) ⟨fun q => ?_, fun q => ⟨fun q2 => ?_, fun q2 => ?_⟩⟩⟩)⟩)
  · have e : aSway w x y = -1 := by unfold aSway; rw [ix_n (by omega) q]
    rw [e] at fin0; exact fin0
  · have e : aSway w x y = -1 := by unfold aSway; rw [ex, ix_s hj (by omega)]; exact if_neg (fun z => by rcases z with rfl | rfl | rfl <;> exact absurd q (by decide))
    rw [e] at fin0; exact fin0
  · obtain ⟨m, hm, rfl⟩ := nI_of q
    rw [nI_lit 2, nI_leI hm (by decide)] at q2
    have y3 : nI m = 0 ∨ nI m = 1 ∨ nI m = 2 := by
      have : m = 0 ∨ m = 1 ∨ m = 2 := by omega
      rcases this with rfl | rfl | rfl <;> decide
    have e : aSway w x (nI m) = swA (swF (wN w) (wV w) (wf w) (wS w) (wW w) j) (nI m) := by unfold aSway; rw [ex, ix_s hj (by omega)]; exact if_pos y3
    obtain ⟨KB, k1, k2, k3⟩ := B.2.2.2.2
    refine ⟨OB.1, _, OB.2.2.1.2.1, A.2.1.2.2.2.1.1, ?_⟩
    rw [ex]
    refine s7_knows A.2.1.2.2.2.1 k1 k2 (by omega) (fun kb => ⟨_, rfl, br_f (by decide +kernel) ⟨OB.1, _, OB.2.2.1.2.1, A.2.1.2.2.2.1.1, ?_⟩⟩) (fun kb => ⟨_, rfl, br_t rfl ⟨OB.1, _, OB.2.1.2.2.2, _, OB.2.2.2.2.1, _, OB.2.2.2.1.1, B.1.1.1, q5_refresh A B O Z (fun h9 sc' tc' nc' F A9 B9 RF e8 Z9 => ⟨rfl, ?_⟩)⟩⟩)
    · refine s7_answer A.2.1.2.2.2.1 N3 V8 hj y3 (k3 j hj kb) ⟨_, rfl, ?_⟩
      rw [e] at fin0; exact fin0
    · have OB9 := A9.1.2.2.1
      have T9 : cT h9 t (wN w) (wV w) (wS w) (wW w) := A9.1.2.2.2.1.1
      obtain ⟨KB9, j1, j2, j3⟩ := B9.2.2.2.2
      obtain ⟨L1, ⟨L2, L3, L4, -⟩, -, ⟨M2, M3, M4, M5⟩, -⟩ := B9.1
      refine ⟨OB9.1, _, OB9.2.2.1.2.1, _, OB9.2.1.2.2.2, _, OB9.2.2.2.2.1, A9.2.1.2.2.2.1.1, ?_⟩
      refine s7_search (f := wf w) A9.2.1.2.2.2.1 T9 ht L1.1 L2 M2 L3 M3 RF.1.1 (rows_sz O B9) M5 L4 M4 RF.1.2 RF.2.2.1.1 RF.2.2.1.2.1 RF.2.2.1.2.2 (wf_C O) hj j1 j2 (fun h26 F26 g3 oth K26 => ⟨rfl, ?_⟩)
      have F26c : fc [22, 23, 24] [] [(21, 3)] h9 h26 := fc_r F26 (by decide) (by decide)
      have A26 : cFx h26 w t t2 o bo := cFx_fc (R := []) A9 (fc_r F26 (by decide) (by decide))
      have D := cVr0_fc A9 B9 F26c (by decide) (by decide)
      have SQ : cSq h26 (wN w) (wV w) (wf w) (wS w) (wW w) := ⟨KB9 ||| 2 ^ j, g3, Nat.or_lt_two_pow (n := 3) j2 (Nat.pow_lt_pow_right (by decide) (by omega)), fun i hi hb => by
        by_cases z : i = j
        · rw [z]; exact K26
        · have hb' : KB9.testBit i = true := by
            rw [or_bit] at hb
            simpa [Ne.symm z] using hb
          have := j3 i hi hb'
          unfold swK at this ⊢
          rw [(oth i z).1, (oth i z).2]
          exact this⟩
      have B26 : cVr h26 w o bo sc' tc' nc' := ⟨D.1, D.2.1, D.2.2, cOq_fc B9.2.2.2.1 F26c A9.1.1 (by decide), SQ⟩
      have fin := H h26 (fk_tr (fk_SC F) (fk_SC F26c)) ⟨O, t, t2, o, bo, sc', tc', nc', A26, B26, cSz_fc Z9 F26⟩
      have OB26 := A26.1.2.2.1
      refine ⟨OB26.1, _, OB26.2.2.1.2.1, A26.2.1.2.2.2.1.1, s7_answer A26.2.1.2.2.2.1 N3 V8 hj y3 K26 ⟨_, rfl, ?_⟩⟩
      rw [e] at fin; exact fin
  · have e : aSway w x y = -1 := by unfold aSway; rw [ex, ix_s hj (by omega)]; exact if_neg (fun z => by rcases z with rfl | rfl | rfl <;> exact absurd (by decide) q2)
    rw [e] at fin0; exact fin0
end

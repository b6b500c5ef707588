/-! ===== the class's back; what a change of ballots leaves ===== -/
section
variable {h h' h1 h2 : zH} {Q : Option Value → zH → Prop} {R : List Nat} {t t2 sc tc nc P c N V m : Nat} {o o' : Nat → Option Nat} {bo : Nat → Nat → Option Nat} {w w' : zSt} {x y z : Int32} {e : zEs}
theorem cVr_now {C : List Nat} {Y : List (Nat × Nat)} (A : cFx h w t t2 o bo) (B : cVr h w o bo sc tc nc) (F : fc C [] Y h h') (hC : C.all (fun k => decide (k < 126 ∧ k ≠ 15 ∧ k ≠ 16 ∧ k ≠ 17 ∧ k ≠ 18 ∧ k ≠ 35)) = true) (hY : Y.all (fun q => decide (q.1 < 126 ∧ (q.1 ≠ 12 ∨ 5 ≤ q.2) ∧ q.1 ≠ 34)) = true) (g7 : gI h' 12 7 = gI h 12 7 ||| nI m) (g8 : gI h' 12 8 = 0) (g19 : gI h' 19 4 = 0) (g21 : gI h' 21 3 = 0) (hm : m < 256) (hf : ∀ v, v < wV w → m.testBit v = false → ∀ mk, wf (setE w e) mk v = wf w mk v) (nb : cBs h' [sc, tc, nc] o' e) : cVr h' (setE w e) o' bo sc tc nc := by
  have l := A.1.1
  have nC : ∀ k, (k = 15 ∨ k = 16 ∨ k = 17 ∨ k = 18 ∨ 126 ≤ k) → k ∉ C := fun k hk z => by have := List.all_eq_true.mp hC k z; simp at this; omega
  have nY : ∀ f, f < 5 → (12, f) ∉ Y := fun f hf z => by have := List.all_eq_true.mp hY (12, f) z; simp at this; omega
  obtain ⟨⟨⟨o12, r0, r1, k15, n15⟩, ⟨r2, k2, c2, kk, hkk, n2⟩, ⟨r3, k3, c3, n3⟩, ⟨r4, k4, c4, n4⟩, d1, d2, d3⟩, B8, ⟨Bs, Bx⟩, Bo, Bw⟩ := B
  have gr : ∀ f, f < 5 → gR h' 12 f = gR h 12 f := fun f hf => F.gr l (by decide) (nY f hf)
  have e2 : aI h' sc = aI h sc := by
    obtain ⟨X, G, x⟩ := F
    refine G.i k2.1 (fun z => ?_)
    rcases x sc z with y | y
    · exact nC sc (by omega) y
    · cases y.2
  have F' : fc C [sc, tc, nc] Y h h' := by
    obtain ⟨X, G, x⟩ := F
    exact ⟨X, G, fun k hk => (x k hk).elim Or.inl (fun y => by cases y.2)⟩
  have m2 : aN h' sc = aN h sc := F.n k2.1
  refine ⟨⟨⟨F.o o12, by rw [gr 0 (by decide)]; exact r0, by rw [gr 1 (by decide)]; exact r1, F.ik k15, by rw [F.n k15.1]; exact n15⟩, ⟨by rw [gr 2 (by decide)]; exact r2, F.ik k2, c2, kk, hkk, by rw [m2]; exact n2⟩, ⟨by rw [gr 3 (by decide)]; exact r3, F.ik k3, c3, by rw [F.n k3.1]; exact n3⟩, ⟨by rw [gr 4 (by decide)]; exact r4, F.ik k4, c4, by rw [F.n k4.1]; exact n4⟩, d1, d2, d3⟩, Or.inl ⟨g8, ?_⟩, ⟨nb, fun k e hk he => cBs_fc (Bx k e hk he) F' ?_ ?_ (fun _ z => Or.inl z)⟩, Or.inl g19, 0, g21, by decide, fun j _ hb => ?_⟩
  · have D : ∃ S, cRd h sc (wN w) (wV w) (wf w) S := by
      rcases B8 with ⟨-, S, D⟩ | ⟨-, D, -⟩
      · exact ⟨S, D⟩
      · exact ⟨0, D⟩
    obtain ⟨S, p1, p2, p3⟩ := D
    refine ⟨S ||| m, by rw [g7, p1, nI_or], Nat.or_lt_two_pow (n := 8) p2 hm, ?_⟩
    rcases p3 with p3 | ⟨q1, d, q2, q3⟩
    · refine Or.inl ?_
      have := Nat.or_lt_two_pow (n := 8) p2 hm
      have := @Nat.left_le_or S m
      omega
    · refine Or.inr ⟨by rw [m2]; exact q1, d, fun r hr hc => by rw [e2]; exact q2 r hr hc, fun r hr hc v hv hb => ?_⟩
      rw [Nat.testBit_or, Bool.or_eq_false_iff] at hb
      rw [hf v hv hb.2]
      exact q3 r hr hc v hv hb.1
  · exact List.all_eq_true.mpr (fun k hk => by have := List.all_eq_true.mp hC k hk; simp at this ⊢; omega)
  · exact List.all_eq_true.mpr (fun k hk => by have := List.all_eq_true.mp hY k hk; simp at this ⊢; omega)
  · rw [Nat.zero_testBit] at hb; cases hb
/-- another now -/
theorem cFx_now {C : List Nat} {Y : List (Nat × Nat)} (A : cFx h w t t2 o bo) (F : fc C R Y h h') (hC : C.all (fun k => [36, 38, 39, 40, 41].contains k) = true) (hY : Y.all (fun k => [(33, 3), (37, 4), (12, 7), (12, 8), (19, 4), (21, 3)].contains k) = true) (E : cEb h' (wV w) 33 o' e) : cFx h' (setE w e) t t2 o' bo := by
  have F1 : fc [36, 38, 39, 40, 41] R [(33, 3), (37, 4), (12, 7), (12, 8), (19, 4), (21, 3)] h h' := fc_mo2 F hC hY (fun _ z => z)
  obtain ⟨⟨l, ht, a1, a2, a3⟩, ⟨b1, b2, b3, b4, b5, b6, b7, b8, b9⟩, ⟨c1, c2⟩, d1, d2, d3⟩ := A
  exact ⟨⟨by have := F.le; omega, ht, cOb_fc a1 F1 (by decide), cTn_fc a2 ht F1 l (by decide) (by decide), cOs_fc a3 F1⟩, ⟨cSp_fc b1 F1 l (by decide), cSp_fc b2 F1 l (by decide), cOl_fc b3 F1 l (by decide), cSl_fc b4 F1 l (by decide), cTl_fc b5 F1 l (by decide), F1.o b6, cBxR_fc b7 F1 l (by decide) (by decide), cRr_fc b8 F1 l (by decide) (by decide), cTp_fc b9 F1 l (by decide) (by decide)⟩, ⟨E, fun k hk => cBo_fc (c2 k hk) F1 l hk (by decide) (by decide)⟩, by rw [F1.gi l (by decide) (by decide)]; exact d1, by rw [F1.gi l (by decide) (by decide)]; exact d2, by rw [F1.gi l (by decide) (by decide)]; exact d3⟩
def dBack (w : zSt) (x : Int32) : Int32 × zSt := match ix x 3 with
  | some k => match wX w k with
    | some e => (nI e.2.2.length, setE w e)
    | none => (-1, w)
  | none => (-1, w)
theorem r11_back (A : cR h w P c) (H : ∀ h', fk h h' → cR h' (dBack w x).2 P (c + 1) → Q (some (.int (dBack w x).1)) h') : zC mX11_back [.ref 0, .int x] h Q := by
  have A0 := A
  obtain ⟨O, t, t2, o, bo, sc, tc, nc, A, B, Z⟩ := A
  have OB := A.1.2.2.1
  have Bx := A.2.1.2.2.2.2.2.2.1
  have E := A.2.2.1.1
  have l := A.1.1
  have V8 := stO_V O
  have N3 := stO_N O
  refine nX11_back _ _ _ _ (bX11_back_0 _ _ _ _ ⟨OB.1, s11_boxAt Bx (fun k ex hk => ⟨some _, rfl, fun q => (by cases q), fun _ => ⟨_, rfl, ?_⟩⟩) (fun q => ⟨none, rfl, fun _ => ?_, fun y => absurd rfl y⟩)⟩)
  · have cb := A.2.2.1.2 k hk
    have BE := (cBo_E cb).1
    refine ⟨BE.1, fun q => ?_, fun q => ?_⟩
    · have ed : dBack w x = (-1, w) := by
        unfold dBack
        rw [ex, ix_s hk (by decide)]
        simp only []
        cases z : wX w k with
        | none => rfl
        | some e => rw [z] at cb; rw [cb.1] at q; exact absurd q (by decide)
      rw [ed] at H; exact H h fk_rf (cR_up A0)
    · cases z : wX w k with
      | none => rw [z] at cb; exact absurd cb.1 q
      | some e =>
        rw [z] at cb
        obtain ⟨-, cE, cH, c3⟩ := cb
        have Oe := O.2.2.2.1 k e z
        have Be := B.2.2.1.2 k e hk z
        have ed : dBack w x = (nI e.2.2.length, setE w e) := by
          unfold dBack
          rw [ex, ix_s hk (by decide)]
          simp only []
          rw [z]
        rw [ed] at H
        refine ⟨OB.1, _, OB.2.2.2.1.1, E.1.1, s1_otherBallots E.1 BE ⟨_, rfl, OB.1, _, OB.2.2.2.1.1, E.1.1, ?_⟩⟩
        refine s1_become (a := 33) (d := 43 + 9 * k) E.1 cE E.2.1 cH (by omega) Oe.2.2.2.1 (fun v b hv hb => by have := (Be v hv).1.1; rw [hb] at this; exact this) (fun h9 F9 E9 H9 g3 => ⟨rfl, ?_⟩)
        have F9c : fc [36, 38, 39, 40, 41] [] [(33, 3), (37, 4)] h h9 := fc_r F9 (by decide) (by decide)
        have OB9 := cOb_fc OB F9c (by decide)
        have S9 := cOs_fc A.1.2.2.2.2 F9c
        have Eb9 : cEb h9 (wV w) 33 (bo k) e := ⟨E9, H9, by rw [g3]; exact c3⟩
        have R9 : cBs h9 [sc, tc, nc] (bo k) e := cBs_fc Be (fc_mo2 (C' := [36, 38, 39, 40, 41]) (Y' := [(33, 3), (37, 4)]) F9c (by decide) (by decide) (fun _ z => by cases z)) (by decide) (by decide) (fun _ z => Or.inl z)
        have same : ∀ v, v < wV w → o v = bo k v → ∀ mk, wf (setE w e) mk v = wf w mk v := fun v hv ov mk => by
          have b1 := (B.2.2.1.1 v (by omega)).1
          have b2 := (Be v (by omega)).1
          rw [← ov] at b2
          exact cB_say b2 b1 (Oe.1 v hv) (O.2.2.1.1 v hv) N3 V8
        have out : ∀ {h18 : zH}, cFx h18 (setE w e) t t2 (bo k) bo → Q (some (.int (nI e.2.2.length))) h18 → oK h18 0 11 ∧ (∃ a20 : Nat, gR h18 0 8 = some a20 ∧ (oK h18 a20 1 ∧ (∃ a22 : Nat, gR h18 a20 2 = some a22 ∧ (oK h18 a22 2 ∧ (Q (some (.int (gI h18 a22 4))) h18))))) := fun {h18} A18 q18 =>
          ⟨A18.1.2.2.1.1, _, A18.1.2.2.1.2.2.2.1.1, A18.2.2.1.1.1.1, _, A18.2.2.1.1.1.2.2.2.2.1, A18.2.2.1.1.2.1.1, by rw [show gI h18 (33 + 4) 4 = nI e.2.2.length from A18.2.2.1.1.2.1.2.2.2.1]; exact q18⟩
        have Oo : stO (setE w e) := ⟨O.1, O.2.1, Oe, O.2.2.2.1, O.2.2.2.2⟩
        have mlt : bN (fun v => decide (o v ≠ bo k v)) 8 < 256 := bN_lt
        have mb : ∀ v, v < wV w → (bN (fun v => decide (o v ≠ bo k v)) 8).testBit v = false → o v = bo k v := fun v hv hb => by
          rw [bN_bit, decide_eq_true (show v < 8 by omega), Bool.true_and] at hb
          exact Decidable.byContradiction (fun y => by rw [decide_eq_true y] at hb; cases hb)
        refine ⟨OB9.1, s11_forget OB9.1 OB9.2.1.2.2.2 OB9.2.2.1.1 OB9.2.2.1.2.1 S9.1.1 S9.1.2.1 S9.1.2.2.1 (fun p0 => ⟨rfl, ?_⟩) (fun h18 _ F18 y7 y8 y19 y21 => ⟨rfl, ?_⟩)⟩
        · have m0 : bN (fun v => decide (o v ≠ bo k v)) 8 = 0 := (nI_eq (b := 0) (by omega) (by decide)).mp p0
          have A9 : cFx h9 (setE w e) t t2 (bo k) bo := cFx_now A F9c (by decide) (by decide) Eb9
          have B9 := cVr_fc A B F9c (by decide) (by decide)
          have ff : wf (setE w e) = wf w := by
            funext mk v
            by_cases hv : v < wV w
            · exact same v hv (mb v hv (by rw [m0, Nat.zero_testBit])) mk
            · show sayF _ _ _ _ mk v ((e.1 v).1) ((e.1 v).2.1) = sayF _ _ _ _ mk v (((wE w).1 v).1) (((wE w).1 v).2.1)
              rw [Oe.2.1.2 v (by omega), O.2.2.1.2.1.2 v (by omega)]
          refine out A9 (H h9 (fk_SC F9c) ⟨Oo, t, t2, bo k, bo, sc, tc, nc, A9, ⟨B9.1, ?_, ⟨R9, B9.2.2.1.2⟩, ?_, ?_⟩, cSz_fc Z F9⟩)
          · rw [ff]; exact B9.2.1
          · rw [ff]; exact B9.2.2.2.1
          · rw [ff]; exact B9.2.2.2.2
        · have F18c : fc [36, 38, 39, 40, 41] [] [(33, 3), (37, 4), (12, 7), (12, 8), (19, 4), (21, 3)] h h18 := fc_r ((F9.mo (X' := [36, 38, 39, 40, 41]) (Y' := [(33, 3), (37, 4), (12, 7), (12, 8), (19, 4), (21, 3)]) (by simp) (by simp)).tr (F18.mo (by simp) (by simp))) (by decide) (by decide)
          have F18d : fc [] [] [(12, 7), (12, 8), (19, 4), (21, 3)] h9 h18 := fc_r F18 (by decide) (by decide)
          have l9 : 126 ≤ h9.1 := by have := F9.1.1; omega
          have A18 : cFx h18 (setE w e) t t2 (bo k) bo := cFx_now A F18c (by decide) (by decide) (cEb_fc Eb9 F18d l9 (by decide) (by decide) (by decide))
          have B18 : cVr h18 (setE w e) (bo k) bo sc tc nc := cVr_now A B F18c (by decide) (by decide) (by rw [y7, F9.gi (by decide)]) y8 y19 y21 mlt (fun v hv hb => same v hv (mb v hv hb)) (cBs_fc R9 (fc_mo2 (C' := []) (Y' := [(12, 7), (12, 8), (19, 4), (21, 3)]) F18d (by decide) (by decide) (fun _ z => by cases z)) (by decide) (by decide) (fun _ z => Or.inl z))
          exact out A18 (H h18 (fk_SC F18c) ⟨Oo, t, t2, bo k, bo, sc, tc, nc, A18, B18, cSz_fc (c := c) Z ((F9.mo (X' := [36, 38, 39, 40, 41]) (Y' := [(33, 3), (37, 4), (12, 7), (12, 8), (19, 4), (21, 3)]) (by simp) (by simp)).tr (F18.mo (by simp) (by simp)))⟩)
  · have ed : dBack w x = (-1, w) := by unfold dBack; rw [ix_3 q]
    rw [ed] at H; exact H h fk_rf (cR_up A0)
end

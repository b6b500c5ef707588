/-! ===== the class's reword, roll, in any state ===== -/
section
variable {h h' h1 h2 : zH} {Q : Option Value → zH → Prop} {R : List Nat} {t t2 sc tc nc P c N V m : Nat} {o o' : Nat → Option Nat} {bo : Nat → Nat → Option Nat} {w w' : zSt} {x y z : Int32} {e : zEs} {q : Nat × Int32}
abbrev setR (w : zSt) (e : zEs) (q : Nat × Int32) : zSt := (w.1, ((e, wX w), ((0, (wP w).2), (wT w, q))))
theorem cFx_rd {C : List Nat} {Y : List (Nat × Nat)} (A : cFx h w t t2 o bo) (F : fc C R Y h h') (hC : C.all (fun k => XWr.contains k) = true) (hY : Y.all (fun k => YWr.contains k) = true) (E : cEb h' (wV w) 33 o' e) (g25 : gI h' 2 5 = 0) (g13 : gI h' 0 13 = nI q.1) (g14 : gI h' 0 14 = q.2) : cFx h' (setR w e q) t t2 o' bo := by
  have F1 : fc XWr R YWr h h' := fc_mo2 F hC hY (fun _ z => z)
  obtain ⟨⟨l, ht, a1, a2, a3⟩, ⟨b1, b2, b3, b4, b5, b6, b7, b8, b9⟩, ⟨c1, c2⟩, d1, d2, d3⟩ := A
  exact ⟨⟨by have := F.le; omega, ht, cOb_fc a1 F1 (by decide), cTn_fc a2 ht F1 l (by decide) (by decide), cOs_fc a3 F1⟩, ⟨cSp_fc b1 F1 l (by decide), cSp_fc b2 F1 l (by decide), cOl_fc b3 F1 l (by decide), cSl_fc b4 F1 l (by decide), cTl_fc b5 F1 l (by decide), F1.o b6, cBxR_fc b7 F1 l (by decide) (by decide), cRr_fc b8 F1 l (by decide) (by decide), ⟨g25, Nat.zero_le _, fun i hi => absurd hi (Nat.not_lt_zero i)⟩⟩, ⟨E, fun k hk => cBo_fc (c2 k hk) F1 l hk (by decide) (by decide)⟩, by rw [F1.gi l (by decide) (by decide)]; exact d1, g13, g14⟩
/-- what is read of a wording -/
def rdW (w : zSt) (v : Nat) : zFt ⊕ zPs := rwO (wP w).1 (wP w).2 (wK w) v (80 - otU (eU (wE w)) v)
def fuW (w : zSt) (v : Nat) : Prop := fuelS (wP w).1 (wP w).2 (wK w) v (80 - otU (eU (wE w)) v) 1602 (0, [], [], (0, c00), (0, 0))
def rwE (w : zSt) (v : Nat) (s : zPs) : zEs := (va_up (wE w).1 v (s.2.2.2.1.1, (s.2.2.2.1.2, s.2.2.2.2.2)), (wM w, wH w))
def dReword (w : zSt) (x : Int32) : Int32 × zSt := match ix x (wV w) with
  | some v => match rdW w v with
    | .inl e => (-1, setR w (wE w) (e.1, nI e.2))
    | .inr s => (nI (sm (va_up (eU (wE w)) v s.2.2.2.2.2) 0 8), setR w (rwE w v s) (0, -1))
  | none => (-2, w)
theorem rwE_n {v i : Nat} {s : zPs} (hi : i ≠ v) : (rwE w v s).1 i = (wE w).1 i := up_n hi
theorem rwE_s {v : Nat} {s : zPs} : (rwE w v s).1 v = (s.2.2.2.1.1, (s.2.2.2.1.2, s.2.2.2.2.2)) := up_s
theorem r11_reword (A : cR h w P c) (H : ∀ h', (∀ v, x = nI v → v < wV w → fuW w v) → fk h h' → cR h' (dReword w x).2 P (c + 1) → Q (some (.int (dReword w x).1)) h') : zC mX11_reword [.ref 0, .int x] h Q := by
  have A0 := A
  obtain ⟨O, t, t2, o, bo, sc, tc, nc, A, B, Z⟩ := A
  have OB := A.1.2.2.1
  have T : cT h t (wN w) (wV w) (wS w) (wW w) := A.1.2.2.2.1.1
  have V8 := stO_V O
  have l := A.1.1
  have ht : t = 70 ∨ t = 77 := by have := A.1.2.1; omega
  have Bs := B.2.2.1.1
  have hR : ∀ k, k ∈ [sc, tc, nc] → k < h.1 := fun k hk => by
    obtain ⟨-, ⟨-, k2, -⟩, ⟨-, k3, -⟩, ⟨-, k4, -⟩, -⟩ := B.1
    simp only [List.mem_cons, List.not_mem_nil, or_false] at hk
    rcases hk with rfl | rfl | rfl
    · exact k2.1
    · exact k3.1
    · exact k4.1
  refine s11_reword (cu := eU (wE w)) (R := [sc, tc, nc]) OB A.1.2.2.2.2 ht T A.1.2.2.2.1.2.1 O.1 rfl rfl A.2.1.2.2.2.2.2.2.2.1 A.2.1.2.2.2.2.2.2.2.2 A.2.2.1.1.1 (fun v hv => ⟨(Bs v hv).1.1, (Bs v hv).1.2.2.1⟩) (fun v b hv hb => (Bs v hv).2 b hb) O.2.2.1.2.1.1 l hR (fun q => ?_) (fun v s h13 b ex hv es Zf FX n13 p13 hb B13 ok us E13 g12 g25 => ?_) (fun v e h8 ex hv es Zf F8 x1 x2 x3 => ?_)
  · have e : dReword w x = (-2, w) := by unfold dReword; rw [ix_n (by omega) q]
    rw [e] at H
    refine H h (fun v ex hv => ?_) fk_rf (cR_up A0)
    rw [ex] at q
    rcases q with q | q
    · exact absurd q (nI_pos (by omega))
    · rw [nI_leI (by omega) (by omega)] at q; omega
  · have e : dReword w x = (nI (sm (va_up (eU (wE w)) v s.2.2.2.2.2) 0 8), setR w (rwE w v s) (0, -1)) := by
      unfold dReword; rw [ex, ix_s hv (by omega)]; simp only []
      rw [show rdW w v = .inr s from es]
    rw [e] at H
    have Fc : fc XWr [] YWr h h13 := fc_z FX (fun _ z => Or.inl z)
    have cb : ∀ i, i < 8 → cB h13 [sc, tc, nc] ((if i = v then some b else o i).getD 34) (eN (rwE w v s) i) (eD (rwE w v s) i) (eU (rwE w v s) i) ∧ ∀ b', (if i = v then some b else o i) = some b' → 126 ≤ b' := fun i hi => by
      by_cases y : i = v
      · rw [if_pos y, y]
        show cB h13 [sc, tc, nc] b ((rwE w v s).1 v).1 ((rwE w v s).1 v).2.1 ((rwE w v s).1 v).2.2 ∧ _
        rw [rwE_s]
        exact ⟨B13, fun b' z => by cases z; exact hb⟩
      · rw [if_neg y]
        show cB h13 [sc, tc, nc] ((o i).getD 34) ((rwE w v s).1 i).1 ((rwE w v s).1 i).2.1 ((rwE w v s).1 i).2.2 ∧ _
        rw [rwE_n y]
        exact cBs_fc Bs (fc_mo2 (C' := XWr) (Y' := YWr) Fc (by decide) (by decide) (fun _ z => by cases z)) (by decide) (by decide) (fun _ z => Or.inl z) i hi
    have Eb : cEb h13 (wV w) 33 (fun i => if i = v then some b else o i) (rwE w v s) := ⟨E13, cHl_fc A.2.2.1.1.2.1 Fc l (by decide) (by decide) (by decide), by rw [Fc.gi l (by decide) (by decide)]; exact A.2.2.1.1.2.2⟩
    have A13 := cFx_rd (q := (0, -1)) A Fc (by decide) (by decide) Eb g25.1 g25.2.1 g25.2.2
    have B13' : cVr h13 (setE w (rwE w v s)) (fun i => if i = v then some b else o i) bo sc tc nc := cVr_now (m := 2 ^ v) A B Fc (by decide) (by decide) g12.1 g12.2.1 g12.2.2.1 g12.2.2.2 (Nat.pow_lt_pow_right (n := 8) (by decide) (by omega)) (fun i hi hb mk => by
      have iv : i ≠ v := fun y => by rw [y, Nat.testBit_two_pow_self] at hb; cases hb
      show sayF _ _ _ _ mk i ((rwE w v s).1 i).1 ((rwE w v s).1 i).2.1 = _
      rw [rwE_n iv]; rfl) cb
    have Oo : stO (setR w (rwE w v s) (0, -1)) := by
      refine ⟨O.1, O.2.1, ⟨fun i hi => ?_, ⟨?_, fun i hi => ?_⟩, O.2.2.1.2.2.1, O.2.2.1.2.2.2⟩, O.2.2.2.1, O.2.2.2.2⟩
      · show okC _ _ i ((rwE w v s).1 i).1 ((rwE w v s).1 i).2.1
        by_cases y : i = v
        · rw [y, rwE_s]; exact ok
        · rw [rwE_n y]; exact O.2.2.1.1 i hi
      · have e1 : sm (eU (rwE w v s)) 0 8 = sm (va_up (eU (wE w)) v s.2.2.2.2.2) 0 8 := sm_congr 8 0 (fun i _ _ => by
          show ((rwE w v s).1 i).2.2 = _
          by_cases y : i = v
          · rw [y, rwE_s, up_s]
          · rw [rwE_n y, up_n y])
        show sm (eU (rwE w v s)) 0 8 ≤ 80
        have e2 := otU_up (cu := eU (wE w)) (x := s.2.2.2.2.2) (show v < 8 by omega)
        have e3 := otU_le (cu := eU (wE w)) (show v < 8 by omega)
        have e4 : sm (eU (wE w)) 0 8 ≤ 80 := O.2.2.1.2.1.1
        omega
      · show (rwE w v s).1 i = bl0
        rw [rwE_n (fun y => by have : wV w ≤ i := hi; omega)]; exact O.2.2.1.2.1.2 i hi
    refine H h13 (fun v' ex' hv' => ?_) (fk_SC Fc) ⟨Oo, t, t2, _, bo, sc, tc, nc, A13, B13', ⟨by have := Z.1; omega, ?_⟩⟩
    · have : v' = v := (nI_eq (by omega) (by omega)).mp (ex'.symm.trans ex)
      rw [this]; exact Zf
    · rw [FX.n (hR sc (by simp)), FX.n (hR tc (by simp)), FX.n (hR nc (by simp))]
      have := Z.2
      have := ok.1
      omega
  · have ed : dReword w x = (-1, setR w (wE w) (e.1, nI e.2)) := by
      unfold dReword; rw [ex, ix_s hv (by omega)]; simp only []
      rw [show rdW w v = .inl e from es]
    rw [ed] at H
    have Fc : fc XOn [] YWf h h8 := fc_r F8 (by decide) (by decide)
    have Eb : cEb h8 (wV w) 33 o (wE w) := cEb_fc A.2.2.1.1 Fc l (by decide) (by decide) (by decide)
    have A8 := cFx_rd (q := (e.1, nI e.2)) A Fc (by decide) (by decide) Eb x1 x2 x3
    have B8 := cVr_fc A B Fc (by decide) (by decide)
    refine H h8 (fun v' ex' hv' => ?_) (fk_SC Fc) ⟨⟨O.1, O.2.1, O.2.2.1, O.2.2.2.1, O.2.2.2.2⟩, t, t2, o, bo, sc, tc, nc, A8, B8, cSz_fc Z F8⟩
    have : v' = v := (nI_eq (by omega) (by omega)).mp (ex'.symm.trans ex)
    rw [this]; exact Zf
end

/-! ===== the class's tape, time, fault, about, shown ===== -/
section
variable {h h' h1 h2 : zH} {Q : Option Value → zH → Prop} {t t2 sc tc nc P c N V : Nat} {o : Nat → Option Nat} {bo : Nat → Nat → Option Nat} {w w' : zSt} {x y z : Int32}
theorem cR_tp {X : List Nat} {Y : List (Nat × Nat)} {p : Nat × (Nat → Nat)} (O : stO w) (A : cFx h w t t2 o bo) (B : cVr h w o bo sc tc nc) (Z : cSz h P c sc tc nc) (F : fr X Y h h') (hX : X.all (fun k => [3].contains k) = true) (hY : Y.all (fun k => [(2, 5)].contains k) = true) (T : cTp h' p.1 p.2) : fk h h' ∧ cR h' (setP w p) P (c + 1) := by
  have F1 : fc [3] [] [(2, 5)] h h' := fc_r F hX hY
  have B' := cVr_fc A B F1 (by decide) (by decide)
  obtain ⟨⟨l, ht, a1, a2, a3⟩, ⟨b1, b2, b3, b4, b5, b6, b7, b8, b9⟩, ⟨c1, c2⟩, d1, d2, d3⟩ := A
  exact ⟨fk_fc F1 (by decide) (by decide), O, t, t2, o, bo, sc, tc, nc, ⟨⟨by have := F.1.1; omega, ht, cOb_fc a1 F1 (by decide), cTn_fc a2 ht F1 l (by decide) (by decide), cOs_fc a3 F1⟩, ⟨cSp_fc b1 F1 l (by decide), cSp_fc b2 F1 l (by decide), cOl_fc b3 F1 l (by decide), cSl_fc b4 F1 l (by decide), cTl_fc b5 F1 l (by decide), F1.o b6, cBxR_fc b7 F1 l (by decide) (by decide), cRr_fc b8 F1 l (by decide) (by decide), T⟩, ⟨cEb_fc c1 F1 l (by decide) (by decide) (by decide), fun k hk => cBo_fc (c2 k hk) F1 l hk (by decide) (by decide)⟩, by rw [F1.gi l (by decide) (by decide)]; exact d1, by rw [F1.gi l (by decide) (by decide)]; exact d2, by rw [F1.gi l (by decide) (by decide)]; exact d3⟩, B', cSz_fc Z F⟩
def dFeed (w : zSt) (a b e f g : Int32) : Int32 × zSt := if 1580 < (wP w).1 then (-1, w) else (nI ((wP w).1 + 20), setP w ((wP w).1 + 20, ad20 (wP w).1 (wP w).2 a b e f g))
theorem r11_feed {a b e f g : Int32} (A : cR h w P c) (H : ∀ h', fk h h' → cR h' (dFeed w a b e f g).2 P (c + 1) → Q (some (.int (dFeed w a b e f g).1)) h') : zC mX11_feed [.ref 0, .int a, .int b, .int e, .int f, .int g] h Q := by
  have A0 := A
  obtain ⟨O, t, t2, o, bo, sc, tc, nc, A, B, Z⟩ := A
  have OB := A.1.2.2.1
  have L := A.2.1.2.2.2.2.2.2.2.1
  have T := A.2.1.2.2.2.2.2.2.2.2
  refine s11_feed OB.1 OB.2.1.2.1 L.2.2.2.2.1 T (fun q => ?_) (fun h' q F T' => ?_)
  · have ed : dFeed w a b e f g = (-1, w) := if_pos q
    rw [ed] at H; exact H h fk_rf (cR_up A0)
  · have ed : dFeed w a b e f g = (nI ((wP w).1 + 20), setP w ((wP w).1 + 20, ad20 (wP w).1 (wP w).2 a b e f g)) := if_neg (Nat.not_lt.mpr q)
    rw [ed] at H
    have fin := cR_tp (p := ((wP w).1 + 20, ad20 (wP w).1 (wP w).2 a b e f g)) O A B Z F (by decide) (by decide) T'
    exact H h' fin.1 fin.2
def dEnd (w : zSt) (x : Int32) : Int32 × zSt := match ix x ((wP w).1 + 1) with
  | some k => (nI k, setP w (k, (wP w).2))
  | none => (-1, w)
theorem r11_end (A : cR h w P c) (H : ∀ h', fk h h' → cR h' (dEnd w x).2 P (c + 1) → Q (some (.int (dEnd w x).1)) h') : zC mX11_end [.ref 0, .int x] h Q := by
  have A0 := A
  obtain ⟨O, t, t2, o, bo, sc, tc, nc, A, B, Z⟩ := A
  have OB := A.1.2.2.1
  have L := A.2.1.2.2.2.2.2.2.2.1
  have T := A.2.1.2.2.2.2.2.2.2.2
  have n16 := T.2.1
  refine s11_end OB.1 OB.2.1.2.1 L.2.2.2.2.1 T (fun k h' ex hk F T' => ?_) (fun q => ?_)
  · have e : dEnd w x = (nI k, setP w (k, (wP w).2)) := by unfold dEnd; rw [ex, ix_s (Nat.lt_succ_of_le hk) (by omega)]
    rw [e] at H
    have fin := cR_tp (p := (k, (wP w).2)) O A B Z F (by decide) (by decide) T'
    exact H h' fin.1 fin.2
  · have e : dEnd w x = (-1, w) := by
      unfold dEnd
      have : ix x ((wP w).1 + 1) = none := by
        unfold ix
        split
        · rfl
        · rename_i y
          obtain ⟨j, hj, rfl⟩ := nI_of y
          rw [nI_clamp hj, if_neg (fun z => q j (Nat.le_of_lt_succ z) rfl)]
      rw [this]
    rw [e] at H; exact H h fk_rf (cR_up A0)
def dLater (w : zSt) (x : Int32) : Int32 × zSt := match ix x 1001 with
  | some d => if wT w + d ≤ 100000 then (nI (wT w + d), setT w (wT w + d)) else (-1, w)
  | none => (-1, w)
theorem r11_later (A : cR h w P c) (H : ∀ h', fk h h' → cR h' (dLater w x).2 P (c + 1) → Q (some (.int (dLater w x).1)) h') : zC mX11_later [.ref 0, .int x] h Q := by
  have A0 := A
  obtain ⟨O, t, t2, o, bo, sc, tc, nc, A, B, Z⟩ := A
  have OB := A.1.2.2.1
  have g12 := A.2.2.2.1
  have t5 : wT w ≤ 100000 := O.2.2.2.2
  have no : ix x 1001 = none → Q (some (.int (-1))) h := fun z => by
    have e : dLater w x = (-1, w) := by unfold dLater; rw [z]
    rw [e] at H; exact H h fk_rf (cR_up A0)
  refine nX11_later _ _ _ _ (bX11_later_0 _ _ _ _ ⟨fun q => no (ix_n (by decide) (Or.inl q)), fun q => ?_⟩)
  obtain ⟨d, hd, rfl⟩ := nI_of q
  rw [nI_lit 1000, nI_ltI (by decide) hd, nI_lit 100000, g12, nI_add]
  refine ⟨fun q1 => no (ix_nx (n := 1000) (by decide) (Or.inr (by rw [nI_ltI (by decide) hd]; exact q1))), fun q1 => ⟨OB.1, ?_⟩⟩
  rw [nI_leI (by omega) (by decide)]
  have ei : ix (nI d) 1001 = some d := ix_s (by omega) (by decide)
  refine ⟨fun y h5 e5 => ?_, fun y => ?_⟩
  · have e : dLater w (nI d) = (nI (wT w + d), setT w (wT w + d)) := by unfold dLater; rw [ei]; exact if_pos y
    rw [e] at H
    have F : fr [] [(0, 12)] h h5 := by rw [e5]; exact fr_pF (by simp) OB.1 rfl rfl
    have g5 : gI h5 0 12 = nI (wT w + d) := by rw [e5]; exact gI_pF_s OB.1 (by decide)
    have F1 : fc [] [] [(0, 12)] h h5 := fc_r F (by decide) (by decide)
    have B' := cVr_fc A B F1 (by decide) (by decide)
    rw [g5]
    obtain ⟨⟨l, ht, a1, a2, a3⟩, ⟨b1, b2, b3, b4, b5, b6, b7, b8, b9⟩, ⟨c1, c2⟩, d1, d2, d3⟩ := A
    exact H h5 (fk_fc F1 (by decide) (by decide)) ⟨⟨O.1, O.2.1, O.2.2.1, O.2.2.2.1, y⟩, t, t2, o, bo, sc, tc, nc, ⟨⟨by have := F.1.1; omega, ht, cOb_fc a1 F1 (by decide), cTn_fc a2 ht F1 l (by decide) (by decide), cOs_fc a3 F1⟩, ⟨cSp_fc b1 F1 l (by decide), cSp_fc b2 F1 l (by decide), cOl_fc b3 F1 l (by decide), cSl_fc b4 F1 l (by decide), cTl_fc b5 F1 l (by decide), F1.o b6, cBxR_fc b7 F1 l (by decide) (by decide), cRr_fc b8 F1 l (by decide) (by decide), cTp_fc b9 F1 l (by decide) (by decide)⟩, ⟨cEb_fc c1 F1 l (by decide) (by decide) (by decide), fun k hk => cBo_fc (c2 k hk) F1 l hk (by decide) (by decide)⟩, g5, by rw [F1.gi l (by decide) (by decide)]; exact d2, by rw [F1.gi l (by decide) (by decide)]; exact d3⟩, B', cSz_fc Z F⟩
  · have e : dLater w (nI d) = (-1, w) := by unfold dLater; rw [ei]; exact if_neg y
    rw [e] at H; exact H h fk_rf (cR_up A0)
def aFault (w : zSt) (x : Int32) : Int32 := if x = 0 then nI (wF w).1 else if x = 1 then (wF w).2 else -1
theorem r11_fault (A : cR h w P c) (H : ∀ h', fk h h' → cR h' w P (c + 1) → Q (some (.int (aFault w x))) h') : zC mX11_fault [.ref 0, .int x] h Q := by
  have A0 := A
  obtain ⟨O, t, t2, o, bo, sc, tc, nc, A, B, Z⟩ := A
  refine s11_fault A.1.2.2.1.1 ?_
  rw [A.2.2.2.2.1, A.2.2.2.2.2]
  exact H h fk_rf (cR_up A0)
def aShown (x y z : Int32) : Int32 := if (x = 2 ∨ x = 3) ∧ (y = 0 ∨ y = 1 ∨ y = 2) ∧ (z = 0 ∨ z = 1 ∨ z = 2 ∨ z = 3) then shA (shR x.toNatClampNeg y.toNatClampNeg) z else -1
theorem aShown_s {n k : Nat} (hn : n = 2 ∨ n = 3) (hk : k < 3) (hz : z = 0 ∨ z = 1 ∨ z = 2 ∨ z = 3) : aShown (nI n) (nI k) z = shA (shR n k) z := by
  have k3 : k = 0 ∨ k = 1 ∨ k = 2 := by omega
  unfold aShown
  rw [if_pos ⟨by rcases hn with rfl | rfl <;> decide, by rcases k3 with rfl | rfl | rfl <;> decide, hz⟩, nI_clamp (by omega), nI_clamp (by omega)]
theorem aShown_n (q : (x < 2 ∨ 3 < x) ∨ (y < 0 ∨ 2 < y) ∨ ¬ (z = 0 ∨ z = 1 ∨ z = 2 ∨ z = 3)) : aShown x y z = -1 := by
  unfold aShown
  rw [if_neg]
  rintro ⟨a, b, d⟩
  rcases q with (q | q) | (q | q) | q
  · rcases a with rfl | rfl <;> exact absurd q (by decide)
  · rcases a with rfl | rfl <;> exact absurd q (by decide)
  · rcases b with rfl | rfl | rfl <;> exact absurd q (by decide)
  · rcases b with rfl | rfl | rfl <;> exact absurd q (by decide)
  · exact q d
theorem r11_shown (A : cR h w P c) (H : ∀ h', fk h h' → cR h' w P (c + 1) → Q (some (.int (aShown x y z))) h') : zC mX11_shown [.ref 0, .int x, .int y, .int z] h Q := by
  have A0 := A
  obtain ⟨O, t, t2, o, bo, sc, tc, nc, A, B, Z⟩ := A
  have OB := A.1.2.2.1
  refine s11_shown OB.1 OB.2.2.1.2.2.1 A.2.1.2.2.2.2.2.1 (fun h' n k hn ex hk ey hz F => ?_) (fun h' q F => ?_)
  · have fin := cR_fr O A B Z F (by decide) (by decide) (by decide) (by decide)
    have := H h' fin.1 fin.2
    rw [ex, ey, aShown_s hn hk hz] at this
    exact this
  · have fin := cR_fr O A B Z F (by decide) (by decide) (by decide) (by decide)
    have := H h' fin.1 fin.2
    rw [aShown_n q] at this
    exact this
def tkC (w : zSt) : Nat := sm (fun v => if wO w v = true then 1 else 0) 0 8
def aAbout (w : zSt) (x : Int32) : Int32 := abA (wN w) (wK w).2.1.1 (wV w) (tkC w) (wH w).length (wT w) (wP w).1 (sm (eU (wE w)) 0 8) x
theorem pc_told {tb : Nat} (ht : tb < 256) (hb : ∀ v, tb.testBit v = wO w v) : pcF tb = tkC w := by
  have e : ∀ i, tb / 2 ^ i % 2 = if wO w i = true then 1 else 0 := fun i => by
    rw [← hb i, Nat.testBit_eq_decide_div_mod_eq]
    by_cases q : tb / 2 ^ i % 2 = 1
    · rw [q]; simp
    · have : tb / 2 ^ i % 2 < 2 := Nat.mod_lt _ (by decide)
      rw [if_neg (by simpa using q)]; omega
  unfold pcF tkC
  rw [sm_add _ 8 23 0, sm_congr 8 0 (fun i _ _ => e i)]
  have z : sm (fun v => tb / 2 ^ v % 2) (0 + 8) 23 ≤ 0 * 23 := sm_le _ 0 23 _ (fun i h1 h2 => by
    rw [Nat.div_eq_of_lt (Nat.lt_of_lt_of_le ht (Nat.pow_le_pow_right (n := 2) (by decide) (show 8 ≤ i by omega)))]
    exact Nat.le_refl _)
  omega
theorem r11_about (A : cR h w P c) (H : ∀ h', fk h h' → cR h' w P (c + 1) → Q (some (.int (aAbout w x))) h') : zC mX11_about [.ref 0, .int x] h Q := by
  have A0 := A
  obtain ⟨O, t, t2, o, bo, sc, tc, nc, A, B, Z⟩ := A
  have OB := A.1.2.2.1
  have fin := H h fk_rf (cR_up A0)
  have Ky := A.1.2.2.2.1.2.1
  obtain ⟨tb, u1, u2, u3⟩ := A.1.2.2.2.1.2.2.2
  have E := A.2.2.1.1
  unfold aAbout abA at fin
  refine nX11_about _ _ _ _ (bX11_about_0 _ _ _ _ ⟨fun q => ?_, fun q => ?_, fun q => ?_, fun q => ?_, fun q => ?_, fun q => ?_, fun q => ?_, fun q => ?_, fun q0 q1 q2 q3 q4 q5 q6 q7 => ?_⟩)
  · subst q
    exact bX11_about_48 _ _ _ ⟨OB.1, _, OB.2.2.2.2.1, Ky.1, by rw [Ky.2.1.2.2.2.1]; exact fin⟩
  · subst q
    exact bX11_about_56 _ _ _ ⟨OB.1, _, OB.2.2.2.2.1, Ky.1, by rw [Ky.2.2.1.2.2.2.1]; exact fin⟩
  · subst q
    exact bX11_about_64 _ _ _ ⟨OB.1, _, OB.2.2.2.2.1, Ky.1, by rw [Ky.2.2.2.2.2.2.1]; exact fin⟩
  · subst q
    refine bX11_about_72 _ _ _ ⟨OB.1, _, OB.2.2.2.2.1, Ky.1, ?_⟩
    rw [u1]
    exact s6_bitCount u2 ⟨_, rfl, by rw [pc_told u2 u3]; exact fin⟩
  · subst q
    exact bX11_about_83 _ _ _ ⟨OB.1, _, OB.2.2.2.1.1, E.1.1, _, E.1.2.2.2.2.1, E.2.1.1, by rw [show (33 : Nat) + 4 = 37 from rfl, show gI h 37 4 = nI (wH w).length from E.2.1.2.2.2.1]; exact fin⟩
  · subst q
    exact bX11_about_94 _ _ _ ⟨OB.1, by rw [A.2.2.2.1]; exact fin⟩
  · subst q
    have T := A.2.1.2.2.2.2.2.2.2.2
    have L := A.2.1.2.2.2.2.2.2.2.1
    exact bX11_about_99 _ _ _ ⟨OB.1, _, OB.2.1.2.1, L.2.2.2.2.1.1, by rw [T.1]; exact fin⟩
  · subst q
    exact bX11_about_107 _ _ _ ⟨OB.1, _, OB.2.2.2.1.1, E.1.1, s1_units (cu := eU (wE w)) E.1 (fun v hv => ⟨(B.2.2.1.1 v hv).1.1, (B.2.2.1.1 v hv).1.2.2.1⟩) ⟨_, rfl, fin⟩⟩
  · rw [if_neg q0, if_neg q1, if_neg q2, if_neg q3, if_neg q4, if_neg q5, if_neg q6, if_neg q7] at fin
    exact bX11_about_115 _ _ fin
end

/-! ===== the class's small changes: marks, hands, tape, time ===== -/
section
variable {h h' h1 h2 : zH} {Q : Option Value → zH → Prop} {t t2 sc tc nc P c N V : Nat} {o : Nat → Option Nat} {bo : Nat → Nat → Option Nat} {w w' : zSt} {mm : Nat → Nat} {HL : List zHd}
abbrev setE (w : zSt) (e : zEs) : zSt := (w.1, ((e, wX w), w.2.2))
abbrev setN (w : zSt) (mm : Nat → Nat) (HL : List zHd) : zSt := setE w ((wE w).1, (mm, HL))
abbrev setP (w : zSt) (p : Nat × (Nat → Nat)) : zSt := (w.1, (w.2.1, (p, w.2.2.2)))
abbrev setT (w : zSt) (tm : Nat) : zSt := (w.1, (w.2.1, (wP w, (tm, wF w))))
theorem stO_now (O : stO w) (hm : ∀ v, v < wV w → mm v ≤ wN w) (hh : hdO (wV w) (wN w) HL) : stO (setN w mm HL) := ⟨O.1, O.2.1, ⟨O.2.2.1.1, O.2.2.1.2.1, hm, hh⟩, O.2.2.2.1, O.2.2.2.2⟩
theorem cR_now {X : List Nat} {Y : List (Nat × Nat)} (O : stO w) (A : cFx h w t t2 o bo) (B : cVr h w o bo sc tc nc) (Z : cSz h P c sc tc nc) (F : fr X Y h h') (hX : X.all (fun k => [11, 38, 39, 40, 41].contains k) = true) (hY : Y.all (fun k => [(10, 1), (33, 3), (37, 4)].contains k) = true) (g3 : gI h' 33 3 = nI (en 4 (wV w) mm)) (c37 : cHl h' 37 HL) (hm : ∀ v, v < wV w → mm v ≤ wN w) (hh : hdO (wV w) (wN w) HL) : fk h h' ∧ cR h' (setN w mm HL) P (c + 1) := by
  have F1 : fc [11, 38, 39, 40, 41] [] [(10, 1), (33, 3), (37, 4)] h h' := fc_r F hX hY
  have B' := cVr_fc A B F1 (by decide) (by decide)
  obtain ⟨⟨l, ht, a1, a2, a3⟩, ⟨b1, b2, b3, b4, b5, b6, b7, b8, b9⟩, ⟨c1, c2⟩, d1, d2, d3⟩ := A
  refine ⟨fk_fc F1 (by decide) (by decide), stO_now O hm hh, t, t2, o, bo, sc, tc, nc, ⟨⟨by have := F.1.1; omega, ht, cOb_fc a1 F1 (by decide), cTn_fc a2 ht F1 l (by decide) (by decide), cOs_fc a3 F1⟩, ⟨cSp_fc b1 F1 l (by decide), cSp_fc b2 F1 l (by decide), cOl_fc b3 F1 l (by decide), cSl_fc b4 F1 l (by decide), cTl_fc b5 F1 l (by decide), F1.o b6, cBxR_fc b7 F1 l (by decide) (by decide), cRr_fc b8 F1 l (by decide) (by decide), cTp_fc b9 F1 l (by decide) (by decide)⟩, ⟨⟨cEn_fc c1.1 F1 l (by decide) (by decide) (by decide), c37, g3⟩, fun k hk => cBo_fc (c2 k hk) F1 l hk (by decide) (by decide)⟩, by rw [F1.gi l (by decide) (by decide)]; exact d1, by rw [F1.gi l (by decide) (by decide)]; exact d2, by rw [F1.gi l (by decide) (by decide)]; exact d3⟩, B', cSz_fc Z F⟩
def dMark (w : zSt) (x y : Int32) : Int32 × zSt := match ix x (wV w), ix y (wN w + 1) with
  | some j, some m => (1, setN w (ud (wM w) j m) (wH w))
  | _, _ => (0, w)
def dOpen (w : zSt) (x : Int32) : Int32 × zSt := match ix x (wV w) with
  | some j => (nI (wf w (wM w) j), setN w (ud (wM w) j (wf w (wM w) j)) (wH w))
  | none => (-1, w)
theorem ix_nx {x : Int32} {n : Nat} (hn : n < 2 ^ 31) (hx : x < 0 ∨ nI n < x) : ix x (n + 1) = none := by
  by_cases q : x < 0
  · unfold ix; rw [if_pos q]
  · obtain ⟨j, hj, rfl⟩ := nI_of q
    rcases hx with y | y
    · exact absurd y q
    · rw [nI_ltI hn hj] at y
      unfold ix
      rw [if_neg q, nI_clamp hj, if_neg (by omega)]
theorem mk_33 {v : Nat} {m : Int32} (A : cFx h w t t2 o bo) (e : h' = pF h 33 3 (.int m)) : fr [] [(33, 3)] h h' ∧ gI h' 33 3 = m ∧ cHl h' 37 (wH w) := by
  have o33 := A.2.2.1.1.1.1
  have F : fr [] [(33, 3)] h h' := by rw [e]; exact fr_pF (by simp) o33 rfl rfl
  exact ⟨F, by rw [e]; exact gI_pF_s o33 (by decide), cHl_fc (R := []) A.2.2.1.1.2.1 (fc_r (C := []) (Y := [(33, 3)]) F (by decide) (by decide)) A.1.1 (by decide) (by decide) (by decide)⟩
theorem ud_le {m : Nat → Nat} {j x k n : Nat} (hm : ∀ v, v < n → m v ≤ k) (hx : x ≤ k) : ∀ v, v < n → ud m j x v ≤ k := fun v hv => by
  unfold ud
  split
  · exact hx
  · exact hm v hv
theorem r11_mark {x y : Int32} (A : cR h w P c) (H : ∀ h', fk h h' → cR h' (dMark w x y).2 P (c + 1) → Q (some (.int (dMark w x y).1)) h') : zC mX11_mark [.ref 0, .int x, .int y] h Q := by
  have A0 := A
  obtain ⟨O, t, t2, o, bo, sc, tc, nc, A, B, Z⟩ := A
  have OB := A.1.2.2.1
  have T : cT h t (wN w) (wV w) (wS w) (wW w) := A.1.2.2.2.1.1
  have V8 := stO_V O
  have N3 := stO_N O
  refine nX11_mark _ _ _ _ _ (bX11_mark_0 _ _ _ _ _ ⟨OB.1, _, OB.2.2.2.2.1, T.o, s10_hasVoter T (fun q => ⟨_, rfl, br_t rfl ?_⟩) (fun j hj ex => ⟨_, rfl, br_f (by decide +kernel) ⟨OB.1, _, OB.2.2.2.2.1, T.o, s10_hasMark T (fun q => ⟨_, rfl, br_t rfl ?_⟩) (fun m hm ey => ⟨_, rfl, br_f (by decide +kernel) ⟨OB.1, _, OB.2.2.2.1.1, _, OB.2.2.2.2.1, A.2.2.1.1.1.1, T.o, ?_⟩⟩)⟩⟩)⟩)
  · have e : dMark w x y = (0, w) := by unfold dMark; rw [ix_n (by omega) q]
    rw [e] at H; exact H h fk_rf (cR_up A0)
  · have e : dMark w x y = (0, w) := by unfold dMark; rw [ex, ix_s hj (by omega), ix_nx (by omega) q]
    rw [e] at H; exact H h fk_rf (cR_up A0)
  · have e : dMark w x y = (1, setN w (ud (wM w) j m) (wH w)) := by unfold dMark; rw [ex, ey, ix_s hj (by omega), ix_s (Nat.lt_succ_of_le hm) (by omega)]
    rw [e] at H
    rw [A.2.2.1.1.2.2, ex, ey]
    refine s10_withMark T hj (fun v hv => wM_3 O hv) (by omega) ⟨_, rfl, A.2.2.1.1.1.1, fun h21 e21 => ?_⟩
    obtain ⟨F, g, c37⟩ := mk_33 (v := 0) A e21
    have fin := cR_now O A B Z F (by decide) (by decide) g c37 (ud_le O.2.2.1.2.2.1 hm) O.2.2.1.2.2.2
    exact H h21 fin.1 fin.2
theorem fk_tr (a : fk h h1) (b : fk h1 h2) : fk h h2 := by
  obtain ⟨X, Y, G, x, y⟩ := a
  obtain ⟨X', Y', G', x', y'⟩ := b
  refine ⟨X ++ X', Y ++ Y', (G.mo (Nat.le_refl _) (fun k _ z => List.mem_append_left _ z) (fun k _ z => List.mem_append_left _ z)).tr (G'.mo G.1.2.1 (fun k _ z => List.mem_append_right _ z) (fun k _ z => List.mem_append_right _ z)), fun k hk => ?_, fun q hq => ?_⟩
  · exact (List.mem_append.mp hk).elim (x k) (x' k)
  · exact (List.mem_append.mp hq).elim (y q) (y' q)
theorem r11_open {x : Int32} (A : cR h w P c) (H : ∀ h', fk h h' → cR h' (dOpen w x).2 P (c + 1) → Q (some (.int (dOpen w x).1)) h') : zC mX11_open [.ref 0, .int x] h Q := by
  have A0 := A
  obtain ⟨O, t, t2, o, bo, sc, tc, nc, A, B, Z⟩ := A
  have OB := A.1.2.2.1
  have T : cT h t (wN w) (wV w) (wS w) (wW w) := A.1.2.2.2.1.1
  have V8 := stO_V O
  have N3 := stO_N O
  refine nX11_open _ _ _ _ (bX11_open_0 _ _ _ _ ⟨OB.1, _, OB.2.2.2.2.1, T.o, s10_hasVoter T (fun q => ⟨_, rfl, br_t rfl ?_⟩) (fun j hj ex => ⟨_, rfl, br_f (by decide +kernel) ⟨OB.1, _, OB.2.1.2.2.1, _, OB.2.2.2.1.1, A.2.2.1.1.1.1, ?_⟩⟩)⟩)
  · have e : dOpen w x = (-1, w) := by unfold dOpen; rw [ix_n (by omega) q]
    rw [e] at H; exact H h fk_rf (cR_up A0)
  · have e : dOpen w x = (nI (wf w (wM w) j), setN w (ud (wM w) j (wf w (wM w) j)) (wH w)) := by unfold dOpen; rw [ex, ix_s hj (by omega)]
    rw [e] at H
    rw [ex]
    have B8 := B.2.2.1.1 j (by omega)
    have fl : wf w (wM w) j ≤ wN w := wf_N O (wM w) O.2.2.1.2.2.1 j hj
    refine s1_ballotOf A.2.2.1.1.1 (by omega) ⟨_, rfl, _, rfl, OB.1, _, OB.2.2.2.1.1, A.2.2.1.1.1.1, _, OB.2.2.2.2.1, A.2.1.1.2.1, ?_⟩
    rw [A.2.2.1.1.2.2]
    refine s6_hear (V0 := wV w) A.2.1.1 T (fun v hv => wM_3 O hv) hj (Nat.le_refl _) B8.1 (O.2.2.1.1 j hj) (fun h6 F6 => ⟨_, rfl, ?_⟩)
    have A6 : cFx h6 w t t2 o bo := cFx_fc (R := []) A (fc_r F6 (by decide) (by decide))
    have OB6 := A6.1.2.2.1
    have T6 : cT h6 t (wN w) (wV w) (wS w) (wW w) := A6.1.2.2.2.1.1
    refine ⟨OB6.1, _, OB6.2.2.2.1.1, _, OB6.2.2.2.2.1, A6.2.2.1.1.1.1, T6.o, ?_⟩
    rw [A6.2.2.1.1.2.2]
    refine s10_withMark T6 hj (fun v hv => wM_3 O hv) (by show wf w (wM w) j ≤ 3; omega) ⟨_, rfl, A6.2.2.1.1.1.1, fun h21 e21 => ?_⟩
    obtain ⟨F, g, c37⟩ := mk_33 (v := 0) A6 e21
    have fin := cR_now O A B Z ((F6.mo (Y' := [(10, 1), (33, 3)]) (fun _ z => z) (by simp)).tr (F.mo (by simp) (by simp))) (by decide) (by decide) g c37 (ud_le O.2.2.1.2.2.1 fl) O.2.2.1.2.2.2
    exact H h21 fin.1 fin.2
def dHand (w : zSt) (x y : Int32) : Int32 × zSt := match ix x (wV w), ix y (wN w + 1) with
  | some j, some m => if (wH w).length < 20 then (nI (wH w).length, setN w (wM w) (wH w ++ [(j, m, wT w, none)])) else (-1, w)
  | _, _ => (-1, w)
theorem r11_hand {x y : Int32} (A : cR h w P c) (H : ∀ h', fk h h' → cR h' (dHand w x y).2 P (c + 1) → Q (some (.int (dHand w x y).1)) h') : zC mX11_hand [.ref 0, .int x, .int y] h Q := by
  have A0 := A
  obtain ⟨O, t, t2, o, bo, sc, tc, nc, A, B, Z⟩ := A
  have OB := A.1.2.2.1
  have T : cT h t (wN w) (wV w) (wS w) (wW w) := A.1.2.2.2.1.1
  have V8 := stO_V O
  have N3 := stO_N O
  have E := A.2.2.1.1
  refine nX11_hand _ _ _ _ _ (bX11_hand_0 _ _ _ _ _ ⟨OB.1, _, OB.2.2.2.2.1, T.o, s10_hasVoter T (fun q => ⟨_, rfl, br_t rfl ?_⟩) (fun j hj ex => ⟨_, rfl, br_f (by decide +kernel) ⟨OB.1, _, OB.2.2.2.2.1, T.o, s10_hasMark T (fun q => ⟨_, rfl, br_t rfl ?_⟩) (fun m hm ey => ⟨_, rfl, br_f (by decide +kernel) ⟨OB.1, _, OB.2.2.2.1.1, E.1.1, _, E.1.2.2.2.2.1, E.2.1.1, ?_⟩⟩)⟩⟩)⟩)
  · have e : dHand w x y = (-1, w) := by unfold dHand; rw [ix_n (by omega) q]
    rw [e] at H; exact H h fk_rf (cR_up A0)
  · have e : dHand w x y = (-1, w) := by unfold dHand; rw [ex, ix_s hj (by omega), ix_nx (by omega) q]
    rw [e] at H; exact H h fk_rf (cR_up A0)
  · have e : dHand w x y = if (wH w).length < 20 then (nI (wH w).length, setN w (wM w) (wH w ++ [(j, m, wT w, none)])) else (-1, w) := by unfold dHand; rw [ex, ey, ix_s hj (by omega), ix_s (Nat.lt_succ_of_le hm) (by omega)]
    rw [ex, ey, A.2.2.2.1]
    refine s2_tell E.2.1 O.2.2.1.2.2.2.1 (fun h5 l20 F5 c37 => ⟨_, rfl, ?_⟩) (fun l20 => ⟨_, rfl, ?_⟩)
    · rw [e, if_pos l20] at H
      have hh : hdO (wV w) (wN w) (wH w ++ [(j, m, wT w, none)]) := ⟨by rw [List.length_append]; exact l20, fun q hq => by
        rcases List.mem_append.mp hq with z | z
        · exact O.2.2.1.2.2.2.2 q z
        · simp only [List.mem_cons, List.not_mem_nil, or_false] at z
          subst z
          exact ⟨hj, hm, O.2.2.2.2, fun u hu => by cases hu⟩⟩
      have fin := cR_now O A B Z F5 (by decide) (by decide) (by rw [F5.gi (by decide)]; exact E.2.2) c37 O.2.2.1.2.2.1 hh
      exact H h5 fin.1 fin.2
    · rw [e, if_neg (show ¬ (wH w).length < 20 from fun z => absurd l20 (Nat.ne_of_lt z))] at H; exact H h fk_rf (cR_up A0)
def dUntell (w : zSt) (x : Int32) : Int32 × zSt := match ix x (wH w).length with
  | some n => match (wH w)[n]? with
    | some q0 => if q0.2.2.2 = none then (1, setN w (wM w) ((wH w).set n (q0.1, q0.2.1, q0.2.2.1, some (wT w)))) else (0, w)
    | none => (0, w)
  | none => (0, w)
theorem r11_untell {x : Int32} (A : cR h w P c) (H : ∀ h', fk h h' → cR h' (dUntell w x).2 P (c + 1) → Q (some (.int (dUntell w x).1)) h') : zC mX11_untell [.ref 0, .int x] h Q := by
  have A0 := A
  obtain ⟨O, t, t2, o, bo, sc, tc, nc, A, B, Z⟩ := A
  have OB := A.1.2.2.1
  have E := A.2.2.1.1
  have Hh := O.2.2.1.2.2.2
  have l20 := Hh.1
  refine nX11_untell _ _ _ _ (bX11_untell_0 _ _ _ _ ⟨OB.1, _, OB.2.2.2.1.1, E.1.1, _, E.1.2.2.2.2.1, E.2.1.1, ?_⟩)
  rw [A.2.2.2.1]
  refine s2_takeBack E.2.1 Hh (fun n q0 h5 ex hq hn F5 c37 => ⟨_, rfl, Or.inr rfl, ?_⟩) (fun q => ⟨_, rfl, Or.inl rfl, ?_⟩)
  · obtain ⟨hl, -⟩ := List.getElem?_eq_some_iff.mp hq
    have e : dUntell w x = (1, setN w (wM w) ((wH w).set n (q0.1, q0.2.1, q0.2.2.1, some (wT w)))) := by
      unfold dUntell; rw [ex, ix_s hl (by omega)]; simp only []; rw [hq]; simp only []; rw [if_pos hn]
    rw [e] at H
    have q0m := Hh.2 q0 (List.mem_of_getElem? hq)
    have hh : hdO (wV w) (wN w) ((wH w).set n (q0.1, q0.2.1, q0.2.2.1, some (wT w))) := ⟨by rw [List.length_set]; exact l20, fun q hq' => by
      rcases List.mem_or_eq_of_mem_set hq' with z | z
      · exact Hh.2 q z
      · subst z
        exact ⟨q0m.1, q0m.2.1, q0m.2.2.1, fun u hu => by cases hu; exact O.2.2.2.2⟩⟩
    have fin := cR_now O A B Z F5 (by decide) (by decide) (by rw [F5.gi (by decide)]; exact E.2.2) c37 O.2.2.1.2.2.1 hh
    exact H h5 fin.1 fin.2
  · have e : dUntell w x = (0, w) := by
      unfold dUntell
      rcases q with q | ⟨n, q0, rfl, hq, hn⟩
      · rw [ix_n (by omega) q]
      · obtain ⟨hl, -⟩ := List.getElem?_eq_some_iff.mp hq
        rw [ix_s hl (by omega)]; simp only []; rw [hq]; simp only []; rw [if_neg hn]
    rw [e] at H; exact H h fk_rf (cR_up A0)
end

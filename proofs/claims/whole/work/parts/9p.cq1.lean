/-! ===== the class's questions: countings, counting, chosen, wins ===== -/
section
variable {h h' h1 h2 : zH} {Q : Option Value → zH → Prop} {R : List Nat} {t t2 sc tc nc P c N V : Nat} {o : Nat → Option Nat} {bo : Nat → Nat → Option Nat} {w : zSt} {f : (Nat → Nat) → Nat → Nat}
/-- a number of the script as an index -/
def ix (x : Int32) (n : Nat) : Option Nat := if x < 0 then none else if x.toNatClampNeg < n then some x.toNatClampNeg else none
theorem ix_s {i n : Nat} (hi : i < n) (hn : n ≤ 2 ^ 31) : ix (nI i) n = some i := by
  unfold ix
  rw [if_neg (nI_pos (by omega)), nI_clamp (by omega), if_pos hi]
theorem ix_n {x : Int32} {n : Nat} (hn : n < 2 ^ 31) (hx : x < 0 ∨ nI n ≤ x) : ix x n = none := by
  unfold ix
  by_cases q : x < 0
  · rw [if_pos q]
  · obtain ⟨j, hj, rfl⟩ := nI_of q
    rw [if_neg q, nI_clamp hj]
    rcases hx with y | y
    · exact absurd y q
    · rw [nI_leI hn hj] at y
      rw [if_neg (by omega)]
/-- what a call of the class leaves of the reference's -/
def fk (h h' : zH) : Prop := ∃ X Y, fz h.1 X Y h h' ∧ (∀ k, k ∈ X → k < 84 ∨ 126 ≤ k) ∧ (∀ q : Nat × Nat, q ∈ Y → q.1 < 84 ∨ 126 ≤ q.1)
theorem fk_fc {C : List Nat} {Y : List (Nat × Nat)} (F : fc C R Y h h') (hC : C.all (fun k => decide (k < 84)) = true) (hY : Y.all (fun q => decide (q.1 < 84)) = true) : fk h h' := by
  obtain ⟨X, G, e⟩ := F
  refine ⟨X, Y, G, fun k hk => ?_, fun q hq => ?_⟩
  · rcases e k hk with y | y
    · have := List.all_eq_true.mp hC k y; simp at this; exact Or.inl this
    · exact Or.inr y.1
  · have := List.all_eq_true.mp hY q hq; simp at this; exact Or.inl this
/-- the class holds the state -/
def cR (h : zH) (w : zSt) (P c : Nat) : Prop := stO w ∧ ∃ t t2 o bo sc tc nc, cFx h w t t2 o bo ∧ cVr h w o bo sc tc nc ∧ cSz h P c sc tc nc
theorem sl_ml (hN : N ≤ 3) (hf : fC V f) : slN N V f (4 ^ V) = (mlN N V f ((N + 1) ^ V)).map (crF N V) := by
  unfold slN mlN
  rw [rows_filter hN V (fun r => stB V (f (dg 4 V r)) (dg 4 V r))]
  congr 1
  refine List.filter_congr (fun r _ => ?_)
  show stB V (f (dg 4 V (crF N V r))) (dg 4 V (crF N V r)) = stB V (f (dg (N + 1) V r)) (dg (N + 1) V r)
  have e := dg_cr (V := V) (r := r) hN
  rw [Bool.eq_iff_iff]
  simp only [stB, List.all_eq_true, List.mem_range, decide_eq_true_eq]
  constructor
  · intro z v hv; rw [← e v hv, ← hf _ _ e v hv]; exact z v hv
  · intro z v hv; rw [e v hv, hf _ _ e v hv]; exact z v hv
theorem stO_N (O : stO w) : wN w ≤ 3 := O.1.1.1
theorem stO_V (O : stO w) : wV w ≤ 8 := O.1.2.2.1
theorem wd_N {r v : Nat} : dg (wN w + 1) (wV w) r v ≤ wN w := Nat.le_of_lt_succ (dg_lt (Nat.succ_pos _))
theorem wd_3 {r v : Nat} (O : stO w) : dg (wN w + 1) (wV w) r v ≤ 3 := Nat.le_trans wd_N (stO_N O)
/-- the countings that stand -/
abbrev wL (w : zSt) : List Nat := mlN (wN w) (wV w) (wf w) ((wN w + 1) ^ wV w)
theorem wL_len (O : stO w) : (wL w).length ≤ 65536 := by
  have hN := stO_N O
  have hV := stO_V O
  have := List.length_filter_le (isC (wN w) (wV w) (wf w)) (List.range ((wN w + 1) ^ wV w))
  rw [List.length_range] at this
  exact Nat.le_trans this (Nat.le_trans (Nat.le_trans (Nat.pow_le_pow_left (show wN w + 1 ≤ 4 by omega) _) (Nat.pow_le_pow_right (by decide) hV)) (by decide))
theorem wL_mk {i : Nat} (O : stO w) (F : cRF h w sc tc nc) (hi : i < (wL w).length) : aI h tc i = nI (en 4 (wV w) (dg (wN w + 1) (wV w) ((wL w).getD i 0))) ∧ i < aN h tc := by
  obtain ⟨-, ⟨-, a1, a2⟩, -⟩ := F
  rw [sl_ml (stO_N O) (wf_C O)] at a1 a2
  rw [List.length_map] at a2
  refine ⟨a1 i _ ?_, Nat.lt_of_lt_of_le hi a2⟩
  rw [List.getElem?_map, List.getElem?_eq_getElem hi, List.getD_eq_getElem?_getD, List.getElem?_eq_getElem hi]
  rfl
theorem wL_n (O : stO w) (F : cRF h w sc tc nc) : gI h 12 5 = nI (wL w).length := by
  obtain ⟨-, ⟨a0, -, -⟩, -⟩ := F
  rw [sl_ml (stO_N O) (wf_C O), List.length_map] at a0
  exact a0
theorem fk_SC {C : List Nat} {Y : List (Nat × Nat)} (F : fc C R Y h h') (hC : C.all (fun k => decide (k < 84)) = true := by decide) (hY : Y.all (fun q => decide (q.1 < 84)) = true := by decide) : fk h h' := fk_fc F hC hY
def aCountings (w : zSt) : Int32 := nI (wL w).length
def aCounting (w : zSt) (x y : Int32) : Int32 := match ix x (wL w).length, ix y (wV w) with
  | some i, some j => nI (dg (wN w + 1) (wV w) ((wL w).getD i 0) j)
  | _, _ => -1
def aChosen (w : zSt) (x : Int32) : Int32 := match ix x (wL w).length with
  | some i => nI (chF (wV w) (wN w) (wS w) (wW w) (dg (wN w + 1) (wV w) ((wL w).getD i 0))) + (-1)
  | none => -2
theorem r11_countings (A : cR h w P c) (H : ∀ h', fk h h' → cR h' w P (c + 1) → Q (some (.int (aCountings w))) h') : zC mX11_countings [.ref 0] h Q := by
  obtain ⟨O, t, t2, o, bo, sc, tc, nc, A, B, Z⟩ := A
  have OB := A.1.2.2.1
  refine nX11_countings _ _ _ (bX11_countings_0 _ _ _ ⟨OB.1, _, OB.2.1.2.2.2, _, OB.2.2.2.2.1, _, OB.2.2.2.1.1, B.1.1.1, q5_refresh A B O Z (fun h6 sc' tc' nc' F A6 B6 RF e8 Z6 => ⟨rfl, A6.1.2.2.1.1, _, A6.1.2.2.1.2.1.2.2.2, B6.1.1.1, ?_⟩)⟩)
  rw [wL_n O RF]
  exact H h6 (fk_SC F) ⟨O, t, t2, o, bo, sc', tc', nc', A6, B6, Z6⟩
theorem r11_counting {x y : Int32} (A : cR h w P c) (H : ∀ h', fk h h' → cR h' w P (c + 1) → Q (some (.int (aCounting w x y))) h') : zC mX11_counting [.ref 0, .int x, .int y] h Q := by
  obtain ⟨O, t, t2, o, bo, sc, tc, nc, A, B, Z⟩ := A
  have OB := A.1.2.2.1
  have hl := wL_len O
  have hN := stO_N O
  refine nX11_counting _ _ _ _ _ (bX11_counting_0 _ _ _ _ _ ⟨OB.1, _, OB.2.1.2.2.2, _, OB.2.2.2.2.1, _, OB.2.2.2.1.1, B.1.1.1, q5_refresh A B O Z (fun h6 sc' tc' nc' F A6 B6 RF e8 Z6 => ⟨rfl, A6.1.2.2.1.1, _, A6.1.2.2.1.2.1.2.2.2, B6.1.1.1, ?_⟩)⟩)
  have fin := H h6 (fk_SC F) ⟨O, t, t2, o, bo, sc', tc', nc', A6, B6, Z6⟩
  have OB6 := A6.1.2.2.1
  have T6 : cT h6 t (wN w) (wV w) (wS w) (wW w) := A6.1.2.2.2.1.1
  have V8 := T6.V8
  refine s5_hasStanding B6.1.1.1 (wL_n O RF) (by omega) (fun i ex hi => ⟨_, rfl, br_f (by decide +kernel) ⟨OB6.1, _, OB6.2.2.2.2.1, T6.o, s10_hasVoter T6 (fun q => ⟨_, rfl, br_t rfl ?_⟩) (fun j hj ey => ⟨_, rfl, br_f (by decide +kernel) ⟨OB6.1, _, OB6.2.2.2.2.1, _, OB6.2.1.2.2.2, B6.1.1.1, _, B6.1.2.2.1.1, ?_⟩⟩)⟩⟩) (fun q => ⟨_, rfl, br_t rfl ?_⟩)
  · have : aCounting w x y = -1 := by unfold aCounting; rw [ex, ix_s hi (by omega), ix_n (by omega) q]
    rw [← this]; exact fin
  · obtain ⟨m1, m2⟩ := wL_mk O RF hi
    rw [ex]
    refine s11_atN B6.1.2.2.1.2.1 rfl m2 (by have := B6.1.2.2.1.2.2.2; omega) ⟨_, rfl, T6.o, ?_⟩
    rw [m1, ey]
    refine s10_markOf T6 hj (fun v _ => wd_3 O) ⟨_, rfl, ?_⟩
    have : aCounting w x y = nI (dg (wN w + 1) (wV w) ((wL w).getD i 0) j) := by unfold aCounting; rw [ex, ey, ix_s hi (by omega), ix_s hj (by omega)]
    rw [← this]; exact fin
  · have : aCounting w x y = -1 := by
      unfold aCounting
      have : ix x (wL w).length = none := by
        by_cases z : x < 0
        · exact ix_n (by omega) (Or.inl z)
        · obtain ⟨k, hk, rfl⟩ := nI_of z
          refine ix_n (by omega) (Or.inr ?_)
          rw [nI_leI (by omega) hk]
          exact Nat.le_of_not_lt (fun y => q k y rfl)
      rw [this]
    rw [← this]; exact fin
theorem r11_chosen {x : Int32} (A : cR h w P c) (H : ∀ h', fk h h' → cR h' w P (c + 1) → Q (some (.int (aChosen w x))) h') : zC mX11_chosen [.ref 0, .int x] h Q := by
  obtain ⟨O, t, t2, o, bo, sc, tc, nc, A, B, Z⟩ := A
  have OB := A.1.2.2.1
  have hl := wL_len O
  have hN := stO_N O
  refine nX11_chosen _ _ _ _ (bX11_chosen_0 _ _ _ _ ⟨OB.1, _, OB.2.1.2.2.2, _, OB.2.2.2.2.1, _, OB.2.2.2.1.1, B.1.1.1, q5_refresh A B O Z (fun h6 sc' tc' nc' F A6 B6 RF e8 Z6 => ⟨rfl, A6.1.2.2.1.1, _, A6.1.2.2.1.2.1.2.2.2, B6.1.1.1, ?_⟩)⟩)
  have fin := H h6 (fk_SC F) ⟨O, t, t2, o, bo, sc', tc', nc', A6, B6, Z6⟩
  have OB6 := A6.1.2.2.1
  have T6 : cT h6 t (wN w) (wV w) (wS w) (wW w) := A6.1.2.2.2.1.1
  refine s5_hasStanding B6.1.1.1 (wL_n O RF) (by omega) (fun i ex hi => ⟨_, rfl, br_f (by decide +kernel) ⟨OB6.1, _, OB6.2.2.2.2.1, _, OB6.2.1.2.2.2, B6.1.1.1, _, B6.1.2.2.1.1, ?_⟩⟩) (fun q => ⟨_, rfl, br_t rfl ?_⟩)
  · obtain ⟨m1, m2⟩ := wL_mk O RF hi
    rw [ex]
    refine s11_atN B6.1.2.2.1.2.1 rfl m2 (by have := B6.1.2.2.1.2.2.2; omega) ⟨_, rfl, T6.o, ?_⟩
    rw [m1]
    refine s10_chosenIn T6 (fun v _ => wd_3 O) ⟨_, rfl, ?_⟩
    have : aChosen w x = nI (chF (wV w) (wN w) (wS w) (wW w) (dg (wN w + 1) (wV w) ((wL w).getD i 0))) - 1 := by unfold aChosen; rw [ex, ix_s hi (by omega)]; exact (Int32.sub_eq_add_neg _ _).symm
    rw [← this]; exact fin
  · have : aChosen w x = -2 := by
      unfold aChosen
      have : ix x (wL w).length = none := by
        by_cases z : x < 0
        · exact ix_n (by omega) (Or.inl z)
        · obtain ⟨k, hk, rfl⟩ := nI_of z
          refine ix_n (by omega) (Or.inr ?_)
          rw [nI_leI (by omega) hk]
          exact Nat.le_of_not_lt (fun y => q k y rfl)
      rw [this]
    rw [← this]; exact fin
def aWins (w : zSt) (x : Int32) : Int32 := match ix x (wN w) with
  | some j => winA (wL w).length ((wL w).filter (cwB (wV w) (wN w) (wS w) (wW w) j)).length
  | none => -1
theorem r11_wins {x : Int32} (A : cR h w P c) (H : ∀ h', fk h h' → cR h' w P (c + 1) → Q (some (.int (aWins w x))) h') : zC mX11_wins [.ref 0, .int x] h Q := by
  obtain ⟨O, t, t2, o, bo, sc, tc, nc, A, B, Z⟩ := A
  have OB := A.1.2.2.1
  have hl := wL_len O
  have hN := stO_N O
  refine nX11_wins _ _ _ _ (bX11_wins_0 _ _ _ _ ⟨OB.1, _, OB.2.1.2.2.2, _, OB.2.2.2.2.1, _, OB.2.2.2.1.1, B.1.1.1, q5_refresh A B O Z (fun h6 sc' tc' nc' F A6 B6 RF e8 Z6 => ⟨rfl, A6.1.2.2.1.1, _, A6.1.2.2.1.2.2.2.2.1, A6.1.2.2.2.1.1.o, ?_⟩)⟩)
  have fin := H h6 (fk_SC F) ⟨O, t, t2, o, bo, sc', tc', nc', A6, B6, Z6⟩
  have OB6 := A6.1.2.2.1
  have T6 : cT h6 t (wN w) (wV w) (wS w) (wW w) := A6.1.2.2.2.1.1
  have g5 := wL_n O RF
  refine s10_hasName T6 (fun q => ⟨_, rfl, br_t rfl ?_⟩) (fun j hj ex => ⟨_, rfl, br_f (by decide +kernel) ⟨OB6.1, _, OB6.2.1.2.2.2, B6.1.1.1, fun q => ?_, fun q => ?_⟩⟩)
  · have : aWins w x = -1 := by unfold aWins; rw [ix_n (by show wN w < _; omega) q]
    rw [← this]; exact fin
  · rw [g5] at q
    have q0 : (wL w).length = 0 := (nI_eq (b := 0) (by omega) (by decide)).mp q
    have : aWins w x = -1 := by unfold aWins; rw [ex, ix_s hj (by show wN w ≤ _; omega)]; simp only [winA]; rw [if_pos q0]
    rw [← this]; exact fin
  · have q0 : (wL w).length ≠ 0 := fun z => q (by rw [g5, z]; rfl)
    have ew : aWins w x = winA (wL w).length ((wL w).filter (cwB (wV w) (wN w) (wS w) (wW w) j)).length := by unfold aWins; rw [ex, ix_s hj (by show wN w ≤ _; omega)]
    rw [ew] at fin
    have lf : ((wL w).filter (cwB (wV w) (wN w) (wS w) (wW w) j)).length ≤ (wL w).length := List.length_filter_le _ _
    have go : ∀ (d k won : Nat), k + d = (wL w).length → won = (((wL w).take k).filter (cwB (wV w) (wN w) (wS w) (wW w) j)).length → zX mX11_wins 42 [.ref 0, .int x, .int (nI won), .int (nI k)] [] h6 Q := by
      intro d
      induction d with
      | zero =>
        intro k won hk hw
        have : k = (wL w).length := by omega
        subst this
        rw [List.take_length] at hw
        subst hw
        refine bX11_wins_42 _ _ _ _ _ _ ⟨OB6.1, _, OB6.2.1.2.2.2, B6.1.1.1, br_t (by rw [g5]; exact nI_le (Nat.le_refl _) (by omega)) ?_⟩
        rw [g5, nI_eq (by omega) (by omega)]
        unfold winA at fin
        rw [if_neg q0] at fin
        refine ⟨fun z => by rw [if_pos z] at fin; exact fin, fun z => ?_⟩
        rw [if_neg z] at fin
        rw [← nI_0, nI_leI (by omega) (by decide)]
        exact ⟨fun y => by rw [if_pos (by omega)] at fin; exact fin, fun y => by rw [if_neg (by omega)] at fin; exact fin⟩
      | succ d ih =>
        intro k won hk hw
        have hi : k < (wL w).length := by omega
        obtain ⟨m1, m2⟩ := wL_mk O RF hi
        have wk : won ≤ k := by rw [hw]; exact Nat.le_trans (List.length_filter_le _ _) (List.length_take_le _ _)
        have cl : chF (wV w) (wN w) (wS w) (wW w) (dg (wN w + 1) (wV w) ((wL w).getD k 0)) ≤ 3 := chF_le hN
        have tk1 : (wL w).take (k + 1) = (wL w).take k ++ [(wL w).getD k 0] := by
          rw [List.take_add_one, List.getElem?_eq_getElem hi, List.getD_eq_getElem?_getD, List.getElem?_eq_getElem hi]; rfl
        refine bX11_wins_42 _ _ _ _ _ _ ⟨OB6.1, _, OB6.2.1.2.2.2, B6.1.1.1, br_f (by rw [g5]; exact nI_ge hi (by omega)) ⟨_, OB6.2.2.2.2.1, _, B6.1.2.2.1.1, ?_⟩⟩
        refine s11_atN B6.1.2.2.1.2.1 rfl m2 (by have := B6.1.2.2.1.2.2.2; omega) ⟨_, rfl, T6.o, ?_⟩
        rw [m1]
        refine s10_chosenIn T6 (fun v _ => wd_3 O) ⟨_, rfl, ?_⟩
        rw [ex, nI_1, nI_1, nI_1, nI_eq (by omega) (by omega), ← ex]
        refine ⟨fun z => ih (k + 1) (won + 1) (by omega) ?_, fun z => ih (k + 1) won (by omega) ?_⟩
        · rw [tk1, List.filter_append, List.length_append, ← hw, List.filter_cons, if_pos (show cwB (wV w) (wN w) (wS w) (wW w) j ((wL w).getD k 0) = true from decide_eq_true z)]; rfl
        · rw [tk1, List.filter_append, List.length_append, ← hw, List.filter_cons, if_neg (show ¬ cwB (wV w) (wN w) (wS w) (wW w) j ((wL w).getD k 0) = true from fun y => z (of_decide_eq_true y))]; rfl
    exact go (wL w).length 0 0 (by omega) rfl
end

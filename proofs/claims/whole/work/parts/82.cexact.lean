/-! ===== the class's reader: small steps, exact ===== -/
section
variable {h h' : zH} {Q : Option Value → zH → Prop} {n tc i m w u av as_ : Nat} {bs : Nat → Nat} {c : Nat → zOp} {S : List Nat}
def stk9 (f : Nat → Int32) : List Nat → Prop
  | [] => True
  | e :: E => f E.length = nI e ∧ stk9 f E
theorem stk9_c {f g : Nat → Int32} : ∀ {S : List Nat}, stk9 f S → (∀ j, j < S.length → g j = f j) → stk9 g S
  | [], _, _ => trivial
  | e :: E, a, h => ⟨by rw [h E.length (Nat.lt_succ_self _)]; exact a.1, stk9_c a.2 (fun j hj => h j (Nat.lt_succ_of_lt hj))⟩
/-- what the reader holds: what stands open, the steps, how deep, units, whom it asked, where -/
def cWd (h : zH) (S : List Nat) (m : Nat) (c : Nat → zOp) (w u av as_ : Nat) : Prop := (gI h 1 5 = nI S.length ∧ stk9 (aI h 9) S) ∧ (gI h 1 4 = nI m ∧ ∀ j, j < m → aI h 8 j = cdC (c j)) ∧ gI h 1 6 = nI w ∧ gI h 1 8 = nI u ∧ gI h 1 10 = nI av ∧ gI h 1 11 = nI as_
def cEx (h : zH) (n : Nat) (bs : Nat → Nat) (tc i : Nat) : Prop := cPs h n bs tc i ∧ cGd h
abbrev YX : List (Nat × Nat) := [(1, 4), (1, 5), (1, 6), (1, 8), (1, 10), (1, 11), (1, 12), (1, 13), (2, 7), (2, 8), (2, 9), (2, 10)]
theorem cWd.fr {X : List Nat} {Y : List (Nat × Nat)} (D : cWd h S m c w u av as_) (F : fr X Y h h') (h8 : 8 ∉ X) (h9 : 9 ∉ X) (hY : [4, 5, 6, 8, 10, 11].all (fun f => !(Y.contains (1, f))) = true) : cWd h' S m c w u av as_ := by
  simp only [List.all_cons, List.all_nil, and_true, Bool.and_eq_true] at hY
  obtain ⟨y4, y5, y6, y8, y10, y11⟩ := hY
  unfold cWd
  rw [F.gi (ni_of y4), F.gi (ni_of y5), F.gi (ni_of y6), F.gi (ni_of y8), F.gi (ni_of y10), F.gi (ni_of y11), F.i h8, F.i h9]
  exact D
theorem cEx.fr {X : List Nat} {Y : List (Nat × Nat)} (P : cEx h n bs tc i) (F : fr X Y h h') (hX : [4, 5, 6, 7].all (fun k => !(X.contains k)) = true) (hY : [0, 1, 2, 3, 4, 6, 7, 8, 9, 10].all (fun f => !(Y.contains (2, f))) = true) (hY1 : [0, 1, 2].all (fun f => !(Y.contains (1, f))) = true) (hY2 : (1, 12) ∉ Y) (hY3 : (1, 13) ∉ Y := by simp) : cEx h' n bs tc i := ⟨P.1.fr F hX hY hY1, P.2.fr F hY2 hY3⟩
theorem e4_fail {k : Nat} (P : cEx h n bs tc i) (hk : 0 < k ∧ k ≤ 5) (H : ∀ h', fr XP YX h h' → cLo h' n bs tc (mpk k (tk n bs i)) → Q (some (.int 0)) h') : zC mX4_fail [.ref 1, .int (nI k)] h Q :=
  s4_fail P.1.1 P.1.2 hk (fun _ h' F E => H h' (F.mo (by simp) (by simp)) ⟨⟨i, P.1.fr F (by decide) (by decide) (by decide)⟩, E⟩) (fun z => absurd P.2.1 z)
theorem e4_take {κ : Nat} (P : cEx h n bs tc i) (D : cWd h S m c w u av as_) (hκ : κ < 30) (H1 : (tk n bs i).1 = κ → ∀ h', fr XP YX h h' → cEx h' n bs tc (i + 1) → cWd h' S m c w u av as_ → Q (some (.int 1)) h') (H2 : (tk n bs i).1 ≠ κ → ∀ h', fr XP YX h h' → cLo h' n bs tc (mpk 2 (tk n bs i)) → Q (some (.int 0)) h') : zC mX4_take [.ref 1, .int (nI κ)] h Q := by
  refine s4_take P.1.1 P.1.2 (by omega) (fun _ e h' F C => ?_) (fun _ e h' F E => H2 e h' (F.mo (by simp) (by simp)) ⟨⟨i, P.1.fr F (by decide) (by decide) (by decide)⟩, E⟩) (fun z => absurd P.2.1 z)
  rw [nxi_s P.1.2 (by omega) (by omega)] at C
  exact H1 e h' (F.mo (by simp) (by simp)) ⟨⟨P.1.1.fr F (by simp) (by decide) (by simp) (by simp) (by simp), C⟩, P.2.fr F (by simp)⟩ (D.fr F (by simp) (by simp) (by decide))
theorem e4_advance (P : cEx h n bs tc i) (D : cWd h S m c w u av as_) (n30 : (tk n bs i).1 ≠ 30) (n31 : (tk n bs i).1 ≠ 31) (H : ∀ h', fr XP YX h h' → cEx h' n bs tc (i + 1) → cWd h' S m c w u av as_ → Q none h') : zC mX8_advance [.ref 2] h Q := by
  refine s8_advance P.1.1.2.2.2.2 P.1.2 (fun h' F C => ?_)
  rw [nxi_s P.1.2 n30 n31] at C
  exact H h' (F.mo (by simp) (by simp)) ⟨⟨P.1.1.fr F (by simp) (by decide) (by simp) (by simp) (by simp), C⟩, P.2.fr F (by simp)⟩ (D.fr F (by simp) (by simp) (by decide))
theorem e4_countUnit (P : cEx h n bs tc i) (D : cWd h S m c w u av as_) (hu : u ≤ 80) (H1 : u < 80 → ∀ h', fr XP YX h h' → cEx h' n bs tc i → cWd h' S m c w (u + 1) av as_ → Q (some (.int 1)) h') (H2 : u = 80 → ∀ h', fr XP YX h h' → cLo h' n bs tc (mpk 2 (tk n bs i)) → Q (some (.int 0)) h') : zC mX4_countUnit [.ref 1] h Q := by
  obtain ⟨d1, d2, d3, d4, d5, d6⟩ := D
  refine nX4_countUnit _ _ _ (bX4_countUnit_0 _ _ _ ⟨P.1.1.1, ?_⟩)
  rw [d4, nI_lit 80, nI_ltI (by omega) (by decide), nI_1]
  refine ⟨fun q h3 e3 => ?_, fun q => e4_fail (k := 2) P (by decide) (fun h' F L => ⟨_, rfl, Or.inl rfl, H2 (by omega) h' F L⟩)⟩
  have F : fr XP [(1, 8)] h h3 := by rw [e3]; exact fr_pF (by simp) P.1.1.1 rfl rfl
  exact H1 q h3 (F.mo (by simp) (by simp)) (P.fr F (by decide) (by decide) (by decide) (by simp)) ⟨by rw [F.gi (by simp), show aI h3 9 = aI h 9 by rw [e3]; exact funext fun i => aI_pF]; exact d1, by rw [F.gi (by simp), show aI h3 8 = aI h 8 by rw [e3]; exact funext fun i => aI_pF]; exact d2, by rw [F.gi (by simp)]; exact d3, by rw [e3, gI_pF_s P.1.1.1 (by decide)], by rw [F.gi (by simp)]; exact d5, by rw [F.gi (by simp)]; exact d6⟩
theorem e4_addStep {o : zOp} (P : cEx h n bs tc i) (D : cWd h S m c w u av as_) (hm : m < 1600) (H : ∀ h', fr XP YX h h' → cEx h' n bs tc i → cWd h' S (m + 1) (pE c m o) w u av as_ → Q none h') : zC mX4_addStep [.ref 1, .int (nI o.1), .int (nI o.2.1), .int (nI o.2.2)] h Q := by
  obtain ⟨d1, ⟨d2, d2'⟩, d3, d4, d5, d6⟩ := D
  have L := P.1.1
  have ev : (nI o.1 + ((16 : Int32) * nI o.2.1)) + ((256 : Int32) * nI o.2.2) = cdC o := by
    unfold cdC
    rw [nI_lit 16, nI_lit 256, pk_mul, pk_mul, nI_add, nI_add]
  refine x4_addStep L (fun h3 h5 e3 e5 F => ?_)
  rw [ev, d2, putH, if_neg (nI_pos (by omega)), if_neg (by rw [L.2.2.1.2.2]; exact nI_ge (b := 1600) hm (by decide)), nI_clamp (by omega)] at e3
  have o3 : oK h3 1 4 := by rw [e3]; exact (fr_pI (X := [8]) (Y := []) (h := h) (by simp)).o L.1
  have i5 : ∀ r, aI h5 r = aI h3 r := fun r => by rw [e5]; exact funext fun i => aI_pF
  have g34 : gI h3 1 4 = nI m := by rw [e3, gI_pI]; exact d2
  have g5 : ∀ f, f ≠ 4 → gI h5 1 f = gI h 1 f := fun f hf => by rw [e5, gI_pF_n (Or.inr hf), e3, gI_pI]
  refine H h5 (F.mo (by simp) (by simp)) (P.fr F (by decide) (by decide) (by decide) (by simp)) ⟨⟨by rw [g5 5 (by decide)]; exact d1.1, ?_⟩, ⟨by rw [e5, gI_pF_s o3 (by decide), g34, nI_1], fun j hj => ?_⟩, by rw [g5 6 (by decide)]; exact d3, by rw [g5 8 (by decide)]; exact d4, by rw [g5 10 (by decide)]; exact d5, by rw [g5 11 (by decide)]; exact d6⟩
  · refine stk9_c d1.2 (fun j hj => ?_)
    rw [i5, e3, aI_pI_n (Or.inl (by decide))]
  · rw [i5, e3]
    unfold pE
    by_cases z : j = m
    · rw [if_pos z, z]; exact aI_pI_s ⟨_, L.2.2.1.2.1⟩
    · rw [if_neg z, aI_pI_n (Or.inr z)]; exact d2' j (by omega)
theorem e4_push {k : Nat} (P : cEx h n bs tc i) (D : cWd h S m c w u av as_) (hS : S.length < 64) (H : ∀ h', fr XP YX h h' → cEx h' n bs tc i → cWd h' (k :: S) m c w u av as_ → Q none h') : zC mX4_push [.ref 1, .int (nI k)] h Q := by
  obtain ⟨d1, d2, d3, d4, d5, d6⟩ := D
  have L := P.1.1
  refine nX4_push _ _ _ _ (bX4_push_0 _ _ _ _ ⟨L.1, _, L.2.2.2.1.1, L.2.2.2.1.2.1, br_t (by rw [d1.1, L.2.2.2.1.2.2]; exact nI_lt hS (by decide)) ?_⟩)
  refine x4_push18 L (fun h3 h5 e3 e5 F => ?_)
  rw [d1.1, putH, if_neg (nI_pos (by omega)), if_neg (by rw [L.2.2.2.1.2.2]; exact nI_ge (b := 64) hS (by decide)), nI_clamp (by omega)] at e3
  have o3 : oK h3 1 4 := by rw [e3]; exact (fr_pI (X := [9]) (Y := []) (h := h) (by simp)).o L.1
  have i5 : ∀ r, aI h5 r = aI h3 r := fun r => by rw [e5]; exact funext fun i => aI_pF
  have g35 : gI h3 1 5 = nI S.length := by rw [e3, gI_pI]; exact d1.1
  have g5 : ∀ f, f ≠ 5 → gI h5 1 f = gI h 1 f := fun f hf => by rw [e5, gI_pF_n (Or.inr hf), e3, gI_pI]
  refine H h5 (F.mo (by simp) (by simp)) (P.fr F (by decide) (by decide) (by decide) (by simp)) ⟨⟨by rw [e5, gI_pF_s o3 (by decide), g35, nI_1]; rfl, ?_, ?_⟩, ⟨by rw [g5 4 (by decide)]; exact d2.1, fun j hj => ?_⟩, by rw [g5 6 (by decide)]; exact d3, by rw [g5 8 (by decide)]; exact d4, by rw [g5 10 (by decide)]; exact d5, by rw [g5 11 (by decide)]; exact d6⟩
  · rw [i5, e3]; exact aI_pI_s ⟨_, L.2.2.2.1.2.1⟩
  · refine stk9_c d1.2 (fun j hj => ?_)
    rw [i5, e3, aI_pI_n (Or.inr (by omega))]
  · rw [i5, e3, aI_pI_n (Or.inl (by decide))]; exact d2.2 j hj
theorem e4_topKind (P : cEx h n bs tc i) (D : cWd h S m c w u av as_) (hS : S.length ≤ 64) (h31 : S.headD 0 < 2 ^ 31) (H : Q (some (.int (nI (S.headD 0 % 16)))) h) : zC mX4_topKind [.ref 1] h Q := by
  obtain ⟨d1, d2, d3, d4, d5, d6⟩ := D
  have L := P.1.1
  refine nX4_topKind _ _ _ (bX4_topKind_0 _ _ _ ⟨L.1, _, L.2.2.2.1.1, ?_⟩)
  rw [d1.1]
  cases S with
  | nil =>
    have e : nI ([] : List Nat).length - 1 = -1 := by decide +kernel
    rw [e]
    refine s11_at L.2.2.2.1.2.1 (by rw [L.2.2.2.1.2.2]; decide) ⟨_, rfl, ?_⟩
    have e2 : atF (aI h 9) (aN h 9) (-1) &&& (15 : Int32) = nI (([] : List Nat).headD 0 % 16) := by
      rw [atF, if_pos (by decide +kernel)]; decide +kernel
    rw [e2]; exact H
  | cons k S =>
    have e : nI (k :: S).length - 1 = nI S.length := by
      show nI (S.length + 1) - 1 = _
      rw [nI_pred]
    rw [e]
    have hS' : S.length + 1 ≤ 64 := hS
    refine s11_atN L.2.2.2.1.2.1 L.2.2.2.1.2.2 (by omega) (by decide) ⟨_, rfl, ?_⟩
    rw [d1.2.1, pk_andN (n := k) (by have : k < 2 ^ 31 := h31; omega) 4 (by decide +kernel)]
    exact H
theorem e4_drop {k e : Nat} (P : cEx h n bs tc i) (D : cWd h (e :: S) m c w u av as_) (hk : k < 16) (hw : (k = 6 ∨ k ≤ 3) → 0 < w) (H : ∀ h', fr XP YX h h' → cEx h' n bs tc i → cWd h' S m c (if k = 6 ∨ k ≤ 3 then w - 1 else w) u av as_ → Q none h') : zC mX4_drop [.ref 1, .int (nI k)] h Q := by
  obtain ⟨d1, d2, d3, d4, d5, d6⟩ := D
  have L := P.1.1
  have hl : gI h 1 5 = nI (S.length + 1) := d1.1
  have fin : ∀ (h1 h4 : zH) (w' : Nat), fr XP YQ h h1 → aI h1 = aI h → (∀ f, f ≠ 6 → gI h1 1 f = gI h 1 f) → gI h1 1 6 = nI w' → h4 = pF h1 1 5 (.int ((gI h1 1 5) - (1 : Int32))) → w' = (if k = 6 ∨ k ≤ 3 then w - 1 else w) → Q none h4 := fun h1 h4 w' F1 a1 g1 g6 e4 hw' => by
    have o1 := F1.o L.1
    have F4 : fr XP YQ h1 h4 := by rw [e4]; exact fr_pF (by simp) o1 rfl rfl
    have F := F1.tr F4
    have i4 : ∀ r, aI h4 r = aI h r := fun r => by rw [← a1, e4]; exact funext fun i => aI_pF
    have g4 : ∀ f, f ≠ 5 → f ≠ 6 → gI h4 1 f = gI h 1 f := fun f h5 h6 => by rw [e4, gI_pF_n (Or.inr h5), g1 f h6]
    refine H h4 (F.mo (by simp) (by simp)) (P.fr F (by decide) (by decide) (by decide) (by simp)) ⟨⟨by rw [e4, gI_pF_s o1 (by decide), g1 5 (by decide), hl, nI_pred], by rw [i4]; exact d1.2.2⟩, ⟨by rw [g4 4 (by decide) (by decide)]; exact d2.1, fun j hj => by rw [i4]; exact d2.2 j hj⟩, by rw [e4, gI_pF_n (Or.inr (by decide)), g6, hw'], by rw [g4 8 (by decide) (by decide)]; exact d4, by rw [g4 10 (by decide) (by decide)]; exact d5, by rw [g4 11 (by decide) (by decide)]; exact d6⟩
  have at11 : (k = 6 ∨ k ≤ 3) → zX mX4_drop 11 [.ref 1, .float 0] [] h Q := fun hq => by
    have w0 := hw hq
    refine bX4_drop_11 _ _ _ ⟨L.1, fun h2 e2 h4 e4 => ?_⟩
    have F2 : fr XP YQ h h2 := by rw [e2]; exact fr_pF (by simp) L.1 rfl rfl
    refine fin h2 h4 (w - 1) F2 (by rw [e2]; exact funext fun r => funext fun i => aI_pF) (fun f hf => by rw [e2, gI_pF_n (Or.inr hf)]) ?_ e4 (by rw [if_pos hq])
    rw [e2, gI_pF_s L.1 (by decide), d3, show (1 : Int32) = nI 1 from rfl, nI_sub w0]
  refine nX4_drop _ _ _ _ (bX4_drop_0 _ _ _ _ ?_)
  rw [nI_lit 6, nI_lit 3, nI_eq (by omega) (by decide), nI_ltI (by decide) (by omega)]
  refine ⟨fun q => at11 (Or.inl q), fun q => ⟨fun q2 => ⟨L.1, fun h4 e4 => ?_⟩, fun q2 => at11 (Or.inr (by omega))⟩⟩
  exact fin h h4 w fr.rf rfl (fun f _ => rfl) d3 e4 (by rw [if_neg (by omega)])
end

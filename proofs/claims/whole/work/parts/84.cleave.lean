/-! ===== the class's reader: brackets and questions ===== -/
section
variable {h h' : zH} {Q : Option Value → zH → Prop} {n tc i m w w0 u av as_ : Nat} {bs : Nat → Nat} {c : Nat → zOp} {S E B : List Nat} {e : zFt}
theorem e4_enter {k : Nat} (P : cEx h n bs tc i) (D : cWd h S m c w u av as_) (hS : S.length < 64) (hw : w ≤ 7) (n30 : (tk n bs i).1 ≠ 30) (n31 : (tk n bs i).1 ≠ 31) (H1 : w ≠ 7 → ∀ h', fr XP YX h h' → cEx h' n bs tc (i + 1) → cWd h' (k :: S) m c (w + 1) u av as_ → Q none h') (H2 : w = 7 → ∀ h', fr XP YX h h' → cLo h' n bs tc (mpk 2 (tk n bs i)) → Q none h') : zC mX4_enter [.ref 1, .int (nI k)] h Q := by
  have L := P.1.1
  refine nX4_enter _ _ _ _ (bX4_enter_0 _ _ _ _ ⟨L.1, ?_⟩)
  rw [D.2.2.1, nI_lit 6, nI_leI (by omega) (by decide)]
  refine ⟨fun q => bX4_enter_15 _ _ _ _ ⟨L.1, fun h2 e2 => ?_⟩, fun q => e4_fail (k := 2) P (by decide) (fun h3 F3 L3 => ⟨_, rfl, bX4_enter_15 _ _ _ _ ⟨L3.l.1, fun h2 e2 => ?_⟩⟩)⟩
  · rw [D.2.2.1, nI_1] at e2
    have F2 : fr XP YQ h h2 := by rw [e2]; exact fr_pF (by simp) L.1 rfl rfl
    have P2 : cEx h2 n bs tc i := P.fr F2 (by decide) (by decide) (by decide) (by simp)
    have i2 : ∀ r, aI h2 r = aI h r := fun r => by rw [e2]; exact funext fun i => aI_pF
    have g2 : ∀ f, f ≠ 6 → gI h2 1 f = gI h 1 f := fun f hf => by rw [e2, gI_pF_n (Or.inr hf)]
    obtain ⟨d1, d2, d3, d4, d5, d6⟩ := D
    have D2 : cWd h2 S m c (w + 1) u av as_ := ⟨by rw [g2 5 (by decide), i2]; exact d1, by rw [g2 4 (by decide), i2]; exact d2, by rw [e2, gI_pF_s L.1 (by decide)], by rw [g2 8 (by decide)]; exact d4, by rw [g2 10 (by decide)]; exact d5, by rw [g2 11 (by decide)]; exact d6⟩
    exact e4_push P2 D2 hS (fun h4 F4 P4 D4 => ⟨rfl, P4.1.1.1, _, P4.1.1.2.1, P4.1.1.2.2.2.2.1.1, e4_advance P4 D4 n30 n31 (fun h8 F8 P8 D8 => ⟨rfl, H1 (by omega) h8 ((F2.mo (by simp) (by simp)).tr (F4.tr F8)) P8 D8⟩)⟩)
  · have F2 : fr XP YQ h3 h2 := by rw [e2]; exact fr_pF (by simp) L3.l.1 rfl rfl
    exact l4_push (L3.fr F2) (fun h4 F4 L4 => ⟨rfl, L4.l.1, _, L4.l.2.1, L4.l.2.2.2.2.1.1, l4_advance L4 (fun h8 F8 L8 => ⟨rfl, H2 (by omega) h8 (F3.tr ((F2.mo (by simp) (by simp)).tr ((F4.mo (by simp) (by simp)).tr (F8.mo (by simp) (by simp))))) L8⟩)⟩)
theorem e4_leaveBrackets (P : cEx h n bs tc i) (hB : B.headD 0 = 0) (B0 : 0 < B.length) (hE : wfE E) (hl : E.length + B.length < 64) (hm : m + pnd E ≤ 1600) (D : cWd h (E ++ B) m c (ard E + w0) u av as_) (n30 : (tk n bs i).1 ≠ 30) (n31 : (tk n bs i).1 ≠ 31)
    (H1 : ∀ E', (stl 1 E m c).1 = 3 :: E' → ∀ h', fr XP YX h h' → cEx h' n bs tc (i + 1) → cWd h' (E' ++ B) (stl 1 E m c).2.1 (stl 1 E m c).2.2 (ard E' + w0) u av as_ → Q (some (.int 2)) h')
    (H2 : (∀ E', (stl 1 E m c).1 ≠ 3 :: E') → ∀ h', fr XP YX h h' → cLo h' n bs tc (mpk 2 (tk n bs i)) → Q (some (.int 2)) h') : zC mX4_leaveBrackets [.ref 1] h Q := by
  have sb := stl_b (b := 1) E m c hE
  refine nX4_leaveBrackets _ _ _ (bX4_leaveBrackets_0 _ _ _ ⟨P.1.1.1, e4_settle (b := 1) P (by decide) hB B0 hE (by omega) hm D (fun h2 F2 P2 D2 => ⟨rfl, P2.1.1.1, ?_⟩)⟩)
  generalize (stl 1 E m c).1 = E1 at *
  have hd : (E1 ++ B).headD 0 = E1.headD 0 := ap_hd hB
  have h12 : E1.headD 0 < 12 := wfE_hd sb.1
  refine e4_topKind P2 D2 (by rw [List.length_append]; omega) (by rw [hd]; omega) ⟨_, rfl, ?_⟩
  rw [hd, Nat.mod_eq_of_lt (by omega), nI_lit 3, nI_eq (by omega) (by decide)]
  refine ⟨fun q => ⟨P2.1.1.1, ?_⟩, fun q => ⟨P2.1.1.1, e4_fail (k := 2) P2 (by decide) (fun h14 F14 L14 => ⟨_, rfl, L14.l.1, l4_drop L14 (fun h17 F17 L17 => ⟨rfl, L17.l.1, _, L17.l.2.1, L17.l.2.2.2.2.1.1, l4_advance L17 (fun h21 F21 L21 => ⟨rfl, ?_⟩)⟩)⟩)⟩⟩
  · cases E1 with
    | nil => exact absurd (show (0 : Nat) = 3 from q) (by decide)
    | cons e1 E' =>
      have e3 : e1 = 3 := q
      subst e3
      refine e4_drop (k := 3) (S := E' ++ B) (e := 3) P2 D2 (by decide) (fun _ => by show 0 < (1 + ard E') + w0; omega) (fun h8 F8 P8 D8 => ⟨rfl, P8.1.1.1, _, P8.1.1.2.1, P8.1.1.2.2.2.2.1.1, e4_advance P8 D8 n30 n31 (fun h12 F12 P12 D12 => ⟨rfl, ?_⟩)⟩)
      refine H1 E' rfl h12 (F2.tr (F8.tr F12)) P12 ?_
      have ew : (if 3 = 6 ∨ 3 ≤ 3 then ard (3 :: E') + w0 - 1 else ard (3 :: E') + w0) = ard E' + w0 := by
        rw [if_pos (by decide)]
        show (1 + ard E') + w0 - 1 = _
        omega
      rw [ew] at D12
      exact D12
  · refine H2 (fun E' z => q ?_) h21 (F2.tr (F14.tr ((F17.mo (by simp) (by simp)).tr (F21.mo (by simp) (by simp))))) L21
    rw [z]; rfl
theorem e4_leaveQuestion {B' : List Nat} (P : cEx h n bs tc i) (hE : wfE E) (hl : E.length + B'.length < 63) (hm : m + pnd E < 1600) (D : cWd h (E ++ (0 :: B')) m c (ard E + w0) u av as_) (n30 : (tk n bs i).1 ≠ 30) (n31 : (tk n bs i).1 ≠ 31) (hsum : (stl 1 E m c).2.1 ≤ m + pnd E)
    (H1 : (stl 1 E m c).1 = [] → ∀ h', fr XP YX h h' → cEx h' n bs tc (i + 1) → cWd h' ((1 + 16 * (stl 1 E m c).2.1) :: B') ((stl 1 E m c).2.1 + 1) (pE (stl 1 E m c).2.2 (stl 1 E m c).2.1 (3, 0, 0)) w0 u av as_ → Q (some (.int 0)) h')
    (H2 : (stl 1 E m c).1 ≠ [] → ∀ h', fr XP YX h h' → cLo h' n bs tc (mpk 2 (tk n bs i)) → Q (some (.int 0)) h') : zC mX4_leaveQuestion [.ref 1] h Q := by
  have sb := stl_b (b := 1) E m c hE
  have h3 : ∀ E1, wfE E1 → E1 ≠ [] → E1.headD 0 ≠ 0 := fun E1 h1 h2 => by
    cases E1 with
    | nil => exact absurd rfl h2
    | cons e1 E' =>
      show e1 ≠ 0
      rcases h1.2.2 with z | z | z <;> omega
  refine nX4_leaveQuestion _ _ _ (bX4_leaveQuestion_0 _ _ _ ⟨P.1.1.1, e4_settle (b := 1) (B := 0 :: B') P (by decide) rfl (Nat.succ_pos _) hE (by show E.length + (B'.length + 1) ≤ 64; omega) (by omega) D (fun h2 F2 P2 D2 => ⟨rfl, P2.1.1.1, ?_⟩)⟩)
  generalize (stl 1 E m c).1 = E1 at *
  generalize (stl 1 E m c).2.1 = m1 at *
  generalize (stl 1 E m c).2.2 = c1 at *
  have hd : (E1 ++ (0 :: B')).headD 0 = E1.headD 0 := ap_hd rfl
  have h12 : E1.headD 0 < 12 := wfE_hd sb.1
  refine e4_topKind P2 D2 (by rw [List.length_append]; show E1.length + (B'.length + 1) ≤ 64; omega) (by rw [hd]; omega) ⟨_, rfl, ?_⟩
  rw [hd, Nat.mod_eq_of_lt (by omega), ← nI_0, nI_eq (by omega) (by decide)]
  refine ⟨fun q => ?_, fun q => ⟨P2.1.1.1, e4_fail (k := 2) P2 (by decide) (fun h8 F8 L8 => ⟨_, rfl, bX4_leaveQuestion_18 _ _ _ ⟨L8.l.1, _, L8.l.2.2.2.1.1, s11_put L8.l.2.2.2.1.2.1 (by rw [L8.l.2.2.2.1.2.2]; decide) (fun h3' e3' => ⟨rfl, ?_⟩)⟩⟩)⟩⟩
  · have z : E1 = [] := by
      cases E1 with
      | nil => rfl
      | cons e1 E' => exact absurd q (h3 _ sb.1 (by simp))
    subst z
    have L2 := P2.1.1
    have D2' : cWd h2 (0 :: B') m1 c1 (ard [] + w0) u av as_ := D2
    obtain ⟨d1, d2, d3, d4, d5, d6⟩ := D2'
    refine bX4_leaveQuestion_18 _ _ _ ⟨L2.1, _, L2.2.2.2.1.1, ?_⟩
    have el : gI h2 1 5 - (1 : Int32) = nI B'.length := by rw [d1.1]; show nI (B'.length + 1) - 1 = _; rw [nI_pred]
    have ev : (1 : Int32) + ((16 : Int32) * gI h2 1 4) = nI (1 + 16 * m1) := by rw [d2.1, nI_lit 1, nI_lit 16, pk_mul, nI_add]
    rw [el, ev]
    refine s11_putN L2.2.2.2.1.2.1 L2.2.2.2.1.2.2 (by omega) (by decide) (fun h3' e3' => ⟨rfl, ?_⟩)
    have F3 : fr XP YQ h2 h3' := by rw [e3']; exact fr_pI (by simp)
    have P3 : cEx h3' n bs tc i := P2.fr F3 (by decide) (by decide) (by decide) (by simp)
    have g3 : ∀ f, gI h3' 1 f = gI h2 1 f := fun f => by rw [e3', gI_pI]
    have D3 : cWd h3' ((1 + 16 * m1) :: B') m1 c1 w0 u av as_ := by
      refine ⟨⟨by rw [g3]; exact d1.1, by rw [e3']; exact aI_pI_s ⟨_, L2.2.2.2.1.2.1⟩, ?_⟩, ⟨by rw [g3]; exact d2.1, fun j hj => by rw [e3', aI_pI_n (Or.inl (by decide))]; exact d2.2 j hj⟩, by rw [g3, d3]; show nI (0 + w0) = nI w0; rw [Nat.zero_add], by rw [g3]; exact d4, by rw [g3]; exact d5, by rw [g3]; exact d6⟩
      refine stk9_c d1.2.2 (fun j hj => ?_)
      rw [e3', aI_pI_n (Or.inr (by omega))]
    refine ⟨P3.1.1.1, e4_step0 (k := 3) P3 D3 (by omega) (fun h5 F5 P5 D5 => ⟨rfl, P5.1.1.1, _, P5.1.1.2.1, P5.1.1.2.2.2.2.1.1, e4_advance P5 D5 n30 n31 (fun h9 F9 P9 D9 => ⟨rfl, ?_⟩)⟩)⟩
    exact H1 rfl h9 (F2.tr ((F3.mo (by simp) (by simp)).tr (F5.tr F9))) P9 D9
  · have F3 : fr XP YQ h8 h3' := by rw [e3']; exact fr_putH (by simp)
    have L3 := L8.fr F3
    refine ⟨L3.l.1, l4_addStep L3 (fun h5 F5 L5 => ⟨rfl, L5.l.1, _, L5.l.2.1, L5.l.2.2.2.2.1.1, l4_advance L5 (fun h9 F9 L9 => ⟨rfl, ?_⟩)⟩)⟩
    refine H2 (fun z => q ?_) h9 (F2.tr (F8.tr ((F3.mo (by simp) (by simp)).tr ((F5.mo (by simp) (by simp)).tr (F9.mo (by simp) (by simp)))))) L9
    rw [z]; rfl
end

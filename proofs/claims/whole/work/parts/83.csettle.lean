/-! ===== the class's reader: signs settled ===== -/
section
variable {h h' : zH} {Q : Option Value → zH → Prop} {n tc i m w w0 u av as_ : Nat} {bs : Nat → Nat} {c : Nat → zOp} {S E B : List Nat}
theorem e4_step0 {k : Nat} (P : cEx h n bs tc i) (D : cWd h S m c w u av as_) (hm : m < 1600) (H : ∀ h', fr XP YX h h' → cEx h' n bs tc i → cWd h' S (m + 1) (pE c m (k, 0, 0)) w u av as_ → Q none h') : zC mX4_addStep [.ref 1, .int (nI k), .int 0, .int 0] h Q := by
  have r := e4_addStep (o := (k, 0, 0)) P D hm H
  dsimp only at r
  rw [nI_0] at r
  exact r
theorem ap_hd {E B : List Nat} (hB : B.headD 0 = 0) : (E ++ B).headD 0 = E.headD 0 := by
  cases E with
  | nil => exact hB
  | cons e E => rfl
theorem e4_settle {b : Nat} (P : cEx h n bs tc i) (hb : 1 ≤ b ∧ b ≤ 5) (hB : B.headD 0 = 0) (B0 : 0 < B.length) (hE : wfE E) (hl : E.length + B.length ≤ 64) (hm : m + pnd E ≤ 1600) (D : cWd h (E ++ B) m c (ard E + w0) u av as_) (H : ∀ h', fr XP YX h h' → cEx h' n bs tc i → cWd h' ((stl b E m c).1 ++ B) (stl b E m c).2.1 (stl b E m c).2.2 (ard (stl b E m c).1 + w0) u av as_ → Q none h') : zC mX4_settle [.ref 1, .int (nI b)] h Q := by
  have z12 : ∀ k, k < 12 → zbind k = nI (bnd k) := zbind_n
  have b5 : ∀ k, k < 12 → bnd k ≤ 5 := by decide +kernel
  have hd12 : ∀ E : List Nat, wfE E → (E ++ B).headD 0 < 12 := fun E hE => by rw [ap_hd hB]; exact wfE_hd hE
  have go : ∀ (E : List Nat) (m : Nat) (c : Nat → zOp) (h0 : zH), wfE E → E.length + B.length ≤ 64 → m + pnd E ≤ 1600 → fr XP YX h h0 → cEx h0 n bs tc i → cWd h0 (E ++ B) m c (ard E + w0) u av as_ → (∀ h', fr XP YX h h' → cEx h' n bs tc i → cWd h' ((stl b E m c).1 ++ B) (stl b E m c).2.1 (stl b E m c).2.2 (ard (stl b E m c).1 + w0) u av as_ → Q none h') → zX mX4_settle 10 [.ref 1, .int (nI b), .int (nI ((E ++ B).headD 0 % 16)), .int (nI (E ++ B).length)] [] h0 Q := by
    intro E
    induction E with
    | nil =>
      intro m c h0 hE hl hm F P0 D0 H0
      have e0 : ([] ++ B : List Nat).headD 0 % 16 = 0 := by rw [ap_hd hB]; rfl
      have ln : ([] ++ B : List Nat).length = B.length := rfl
      rw [e0, ln]
      refine bX4_settle_10 _ _ _ _ _ _ (br_f (nI_nle B0 (by omega)) (s4_binding (k := 0) (by decide) ⟨_, rfl, br_t ?_ (H0 h0 F P0 D0)⟩))
      rw [z12 0 (by decide)]
      exact nI_lt (by show 0 < b; omega) (by omega)
    | cons e E ih =>
      intro m c h0 hE hl hm F P0 D0 H0
      have e0 : ((e :: E) ++ B : List Nat).headD 0 % 16 = e := by
        have := hE.1
        show e % 16 = e
        omega
      have ln : ((e :: E) ++ B : List Nat).length = (E ++ B).length + 1 := rfl
      have ll : (E ++ B).length = E.length + B.length := List.length_append
      have hl' : E.length + 1 + B.length ≤ 64 := hl
      rw [e0]
      refine bX4_settle_10 _ _ _ _ _ _ (br_f (nI_nle (by omega) (by omega)) (s4_binding hE.1 ⟨_, rfl, ?_⟩))
      have be5 := b5 e hE.1
      rw [z12 e hE.1, nI_ltI (by omega) (by omega)]
      refine ⟨fun q => ?_, fun q => ?_⟩
      · have r := H0 h0 F P0
        rw [stl, if_neg (by omega)] at r
        exact r D0
      · have e4 := bnd_pos e hE.1 (by omega)
        have pd : pnd (e :: E) = 1 + pnd E := by show (if 4 ≤ e then 1 else 0) + pnd E = _; rw [if_pos e4]
        have r0 := H0
        rw [stl, if_pos (show b ≤ bnd e by omega)] at r0
        refine ⟨P0.1.1.1, e4_step0 P0 D0 (by omega) (fun h6 F6 P6 D6 => ⟨rfl, P6.1.1.1, ?_⟩)⟩
        refine e4_drop (S := E ++ B) (e := e) P6 D6 (by have := hE.1; omega) (fun w => ?_) (fun h8 F8 P8 D8 => ⟨rfl, P8.1.1.1, ?_⟩)
        · have : e = 6 := by omega
          show 0 < ((if e = 3 ∨ e = 6 then 1 else 0) + ard E) + w0
          rw [if_pos (Or.inr this)]; omega
        · have D8' : cWd h8 (E ++ B) (m + 1) (pE c m (e, 0, 0)) (ard E + w0) u av as_ := by
            have ew : (if e = 6 ∨ e ≤ 3 then ard (e :: E) + w0 - 1 else ard (e :: E) + w0) = ard E + w0 := by
              have a : ard (e :: E) = (if e = 3 ∨ e = 6 then 1 else 0) + ard E := rfl
              by_cases z : e = 6
              · rw [if_pos (Or.inl z), a, if_pos (Or.inr z)]; omega
              · rw [if_neg (by omega), a, if_neg (by omega)]; omega
            rw [ew] at D8
            exact D8
          refine e4_topKind P8 D8' (by omega) (by have := hd12 E hE.2.1; omega) ⟨_, rfl, ?_⟩
          rw [ln, pk_m1]
          exact ih (m + 1) _ h8 hE.2.1 (by omega) (by omega) (F.tr (F6.tr F8)) P8 D8' r0
  refine nX4_settle _ _ _ _ (bX4_settle_0 _ _ _ _ ⟨P.1.1.1, e4_topKind P D (by rw [List.length_append]; exact hl) (by have := hd12 E hE; omega) ⟨_, rfl, P.1.1.1, ?_⟩⟩)
  rw [D.1.1]
  exact go E m c h hE hl hm fr.rf P D H
theorem stl_b {b : Nat} : ∀ (E : List Nat) (m : Nat) (c : Nat → zOp), wfE E → wfE (stl b E m c).1 ∧ (stl b E m c).1.length ≤ E.length
  | [], m, c, h => ⟨h, Nat.le_refl _⟩
  | e :: E, m, c, h => by
    rw [stl]
    split
    · have := stl_b (b := b) E (m + 1) (pE c m (e, 0, 0)) h.2.1
      exact ⟨this.1, Nat.le_succ_of_le this.2⟩
    · exact ⟨h, Nat.le_refl _⟩
theorem e4_joinBy {s b : Nat} (P : cEx h n bs tc i) (hb : 1 ≤ b ∧ b ≤ 5) (hB : B.headD 0 = 0) (B0 : 0 < B.length) (hE : wfE E) (hl : E.length + B.length < 64) (hm : m + pnd E ≤ 1600) (D : cWd h (E ++ B) m c (ard E + w0) u av as_) (n30 : (tk n bs i).1 ≠ 30) (n31 : (tk n bs i).1 ≠ 31) (H : ∀ h', fr XP YX h h' → cEx h' n bs tc (i + 1) → cWd h' (s :: ((stl b E m c).1 ++ B)) (stl b E m c).2.1 (stl b E m c).2.2 (ard (stl b E m c).1 + w0) u av as_ → Q (some (.int 1)) h') : zC mX4_joinBy [.ref 1, .int (nI s), .int (nI b)] h Q := by
  have sb := stl_b (b := b) E m c hE
  refine nX4_joinBy _ _ _ _ _ (bX4_joinBy_0 _ _ _ _ _ ⟨P.1.1.1, e4_settle P hb hB B0 hE (by omega) hm D (fun h2 F2 P2 D2 => ⟨rfl, P2.1.1.1, e4_push P2 D2 (by rw [List.length_append]; omega) (fun h4 F4 P4 D4 => ⟨rfl, P4.1.1.1, _, P4.1.1.2.1, P4.1.1.2.2.2.2.1.1, e4_advance P4 D4 n30 n31 (fun h8 F8 P8 D8 => ⟨rfl, H h8 (F2.tr (F4.tr F8)) P8 D8⟩)⟩)⟩)⟩)
theorem e4_relateBy {s : Nat} (P : cEx h n bs tc i) (hB : B.headD 0 = 0) (B0 : 0 < B.length) (hE : wfE E) (hl : E.length + B.length < 64) (hm : m + pnd E ≤ 1600) (D : cWd h (E ++ B) m c (ard E + w0) u av as_) (n30 : (tk n bs i).1 ≠ 30) (n31 : (tk n bs i).1 ≠ 31)
    (H1 : bnd ((stl 5 E m c).1.headD 0) ≠ 4 → ∀ h', fr XP YX h h' → cEx h' n bs tc (i + 1) → cWd h' (s :: ((stl 5 E m c).1 ++ B)) (stl 5 E m c).2.1 (stl 5 E m c).2.2 (ard (stl 5 E m c).1 + w0) u av as_ → Q (some (.int 1)) h')
    (H2 : bnd ((stl 5 E m c).1.headD 0) = 4 → ∀ h', fr XP YX h h' → cLo h' n bs tc (mpk 2 (tk n bs i)) → Q (some (.int 1)) h') : zC mX4_relateBy [.ref 1, .int (nI s)] h Q := by
  have sb := stl_b (b := 5) E m c hE
  have b5 : ∀ k, k < 12 → bnd k ≤ 5 := by decide +kernel
  refine nX4_relateBy _ _ _ _ (bX4_relateBy_0 _ _ _ _ ⟨P.1.1.1, e4_settle (b := 5) P (by decide) hB B0 hE (by omega) hm D (fun h2 F2 P2 D2 => ⟨rfl, P2.1.1.1, ?_⟩)⟩)
  have hd : ((stl 5 E m c).1 ++ B).headD 0 = (stl 5 E m c).1.headD 0 := ap_hd hB
  have h12 : (stl 5 E m c).1.headD 0 < 12 := wfE_hd sb.1
  refine e4_topKind P2 D2 (by rw [List.length_append]; omega) (by rw [hd]; omega) ⟨_, rfl, ?_⟩
  rw [hd, Nat.mod_eq_of_lt (by omega)]
  refine s4_binding h12 ⟨_, rfl, ?_⟩
  have bl := b5 _ h12
  rw [zbind_n _ h12, nI_lit 4, nI_eq (by omega) (by decide)]
  refine ⟨fun q => ⟨P2.1.1.1, e4_fail (k := 2) P2 (by decide) (fun h10 F10 L10 => ⟨_, rfl, L10.l.1, l4_push L10 (fun h13 F13 L13 => ⟨rfl, L13.l.1, _, L13.l.2.1, L13.l.2.2.2.2.1.1, l4_advance L13 (fun h17 F17 L17 => ⟨rfl, ?_⟩)⟩)⟩)⟩, fun q => ⟨P2.1.1.1, e4_push P2 D2 (by rw [List.length_append]; omega) (fun h4 F4 P4 D4 => ⟨rfl, P4.1.1.1, _, P4.1.1.2.1, P4.1.1.2.2.2.2.1.1, e4_advance P4 D4 n30 n31 (fun h8 F8 P8 D8 => ⟨rfl, H1 q h8 (F2.tr (F4.tr F8)) P8 D8⟩)⟩)⟩⟩
  exact H2 q h17 (F2.tr (F10.tr ((F13.mo (by simp) (by simp)).tr (F17.mo (by simp) (by simp))))) L17
end

/-! ===== the class: roll ===== -/
section
variable {h h' : zH} {Q : Option Value → zH → Prop} {n t t2 : Nat} {bs : Nat → Nat} {R : List Nat} {oo : Nat → Option Nat}
theorem cTw_fw {r : zRl} {X : List Nat} {Y : List (Nat × Nat)} (W : cTw h t R r) (F : fr X Y h h') (ht : t = 70 ∨ t = 77) (hX : X.all (fun k => decide (k < 70 ∧ k ≠ 35)) = true) (hY : Y.all (fun q => decide (q.1 < 70 ∧ q.1 ≠ 34)) = true) : cTw h' t R r := by
  have nX : ∀ k, 70 ≤ k → k ∉ X := fun k hk z => by have := List.all_eq_true.mp hX k z; simp at this; omega
  have nY : ∀ f, (t, f) ∉ Y := fun f z => by have := List.all_eq_true.mp hY (t, f) z; simp at this; omega
  obtain ⟨w1, ⟨⟨a1, a2, a3⟩, ⟨b1, b2, b3⟩, ⟨c1, c2, c3⟩⟩, w3, ⟨tb, d1, d2, d3⟩, w5⟩ := W
  refine ⟨w1.fr F (nX _ (by omega)) (nX _ (by omega)) (nX _ (by omega)) (fun f _ => nY f), ⟨⟨by rw [F.gr (nY 3)]; exact a1, F.ik a2, by rw [F.n]; exact a3⟩, ⟨by rw [F.gr (nY 4)]; exact b1, F.ik b2, by rw [F.n]; exact b3⟩, ⟨by rw [F.gr (nY 5)]; exact c1, F.rk c2, by rw [F.n]; exact c3⟩⟩, fun v hv => by rw [F.i (nX _ (by omega)), F.i (nX _ (by omega))]; exact w3 v hv, ⟨tb, by rw [F.gi (nY 9)]; exact d1, d2, d3⟩, fun v hv => ⟨fun z => by rw [F.r (nX _ (by omega))]; exact (w5 v hv).1 z, fun z => ?_⟩⟩
  obtain ⟨bl, e1, e2, e3⟩ := (w5 v hv).2 z
  refine ⟨bl, by rw [F.r (nX _ (by omega))]; exact e1, e2, e3.fr F (fun k hk => Or.inl ?_) (fun q hq => ?_)⟩
  · have := List.all_eq_true.mp hX k hk; simp at this; omega
  · have := List.all_eq_true.mp hY q hq; simp at this; omega
/-- the object's own fields -/
def cOb (h : zH) (t t2 : Nat) : Prop := oK h 0 11 ∧ (gR h 0 0 = some 1 ∧ gR h 0 1 = some 2 ∧ gR h 0 2 = some 10 ∧ gR h 0 3 = some 12) ∧ (gR h 0 4 = some 19 ∧ gR h 0 5 = some 21 ∧ gR h 0 6 = some 25 ∧ gR h 0 7 = some 26) ∧ (gR h 0 8 = some 33 ∧ gR h 0 9 = some 42) ∧ gR h 0 10 = some t ∧ gR h 0 11 = some t2
theorem cOb.fz {m : Nat} {X : List Nat} {Y : List (Nat × Nat)} (O : cOb h t t2) (F : fz m X Y h h') (hm : 0 < m) (hY : [0, 1, 2, 3, 4, 5, 6, 7, 8, 9, 10, 11].all (fun f => !(Y.contains (0, f))) = true) : cOb h' t t2 := by
  simp only [List.all_cons, List.all_nil, and_true, Bool.and_eq_true] at hY
  obtain ⟨y0, y1, y2, y3, y4, y5, y6, y7, y8, y9, y10, y11⟩ := hY
  obtain ⟨a, ⟨b0, b1, b2, b3⟩, ⟨b4, b5, b6, b7⟩, ⟨b8, b9⟩, b10, b11⟩ := O
  exact ⟨F.o a, ⟨by rw [F.gr hm (ni_of y0)]; exact b0, by rw [F.gr hm (ni_of y1)]; exact b1, by rw [F.gr hm (ni_of y2)]; exact b2, by rw [F.gr hm (ni_of y3)]; exact b3⟩, ⟨by rw [F.gr hm (ni_of y4)]; exact b4, by rw [F.gr hm (ni_of y5)]; exact b5, by rw [F.gr hm (ni_of y6)]; exact b6, by rw [F.gr hm (ni_of y7)]; exact b7⟩, ⟨by rw [F.gr hm (ni_of y8)]; exact b8, by rw [F.gr hm (ni_of y9)]; exact b9⟩, by rw [F.gr hm (ni_of y10)]; exact b10, by rw [F.gr hm (ni_of y11)]; exact b11⟩
theorem cOb_fr {X : List Nat} {Y : List (Nat × Nat)} (O : cOb h t t2) (F : fr X Y h h') (hY : [0, 1, 2, 3, 4, 5, 6, 7, 8, 9, 10, 11].all (fun f => !(Y.contains (0, f))) = true) : cOb h' t t2 := by
  have l := O.1.1
  exact O.fz (F.z (n := h.1) (Nat.le_refl _)) (by omega) hY
/-- small objects that a change forgets -/
def cOs (h : zH) : Prop := (oK h 12 5 ∧ oK h 19 3 ∧ oK h 21 7 ∧ oK h 37 2) ∧ oK h 43 1 ∧ oK h 52 1 ∧ oK h 61 1
theorem cOs.fz {m : Nat} {X : List Nat} {Y : List (Nat × Nat)} (O : cOs h) (F : fz m X Y h h') : cOs h' := ⟨⟨F.o O.1.1, F.o O.1.2.1, F.o O.1.2.2.1, F.o O.1.2.2.2⟩, F.o O.2.1, F.o O.2.2.1, F.o O.2.2.2⟩
def XAr (t2 : Nat) : List Nat := [36] ++ XRR t2
def YAf (t2 : Nat) : List (Nat × Nat) := [(2, 5), (0, 13), (0, 14)] ++ YRR t2
def YAr (t2 : Nat) : List (Nat × Nat) := [(0, 10), (0, 11), (33, 3), (37, 4), (43, 4), (52, 4), (61, 4), (12, 7), (12, 8), (19, 4), (21, 3)] ++ YAf t2
theorem s11_roll (O : cOb h t t2) (S : cOs h) (ht : t2 = 70 ∨ t2 = 77) (T0 : cTo h t2) (L : cRr h) (T : cTp h n bs) (E : cEn h 33 oo) (Bx : cBxR h) (l : 126 ≤ h.1) (hR : ∀ k, k ∈ R → k < h.1)
    (H1 : ∀ h' q, lns n bs 1601 rl0 0 = .inr q → lnsS n bs 1601 rl0 0 → rlO q.1 → fz h.1 (XAr t2) (YAr t2) h h' → h'.1 ≤ h.1 + 18 → h'.2.1 ≤ h.2.1 + 5796 → cOb h' t2 t → cTw h' t2 R q.1 → cEn h' 33 (fun v => aR h' (t2 + 6) v) → (gI h' 33 3 = 0 ∧ gI h' 37 4 = 0) → (∀ k, k < 3 → gI h' (43 + 9 * k) 4 = 0) → (gI h' 12 7 = gI h 12 7 ||| 255 ∧ gI h' 12 8 = 0 ∧ gI h' 19 4 = 0 ∧ gI h' 21 3 = 0) → (gI h' 2 5 = 0 ∧ gI h' 0 13 = 0 ∧ gI h' 0 14 = -1) → Q (some (.int (nI q.1.1.1.2.2.1))) h')
    (H2 : ∀ h' e, lns n bs 1601 rl0 0 = .inl e → lnsS n bs 1601 rl0 0 → fz h.1 (XRR t2) (YAf t2) h h' → h'.1 ≤ h.1 + 18 → h'.2.1 ≤ h.2.1 + 5796 → gI h' 2 5 = 0 → gI h' 0 13 = nI e.1 → gI h' 0 14 = nI e.2 → Q (some (.int (-1))) h') : zC mX11_roll [.ref 0] h Q := by
  obtain ⟨o0, ⟨b0, b1, b2, b3⟩, ⟨b4, b5, b6, b7⟩, ⟨b8, b9⟩, b10, b11⟩ := id O
  have eY : [0, 1, 2, 3, 4, 5, 6, 7, 8, 9, 10, 11].all (fun f => !((YRR t2).contains (0, f))) = true := by
    rcases ht with rfl | rfl <;> decide
  have h0 : 0 < h.1 := by omega
  refine nX11_roll _ _ _ (bX11_roll_0 _ _ _ ⟨o0, _, b0, _, b11, L.1, s4_readRoll (R := R) T0 ht L T l hR (fun h5 q eq Z5 O5 F5 n5 p5 W5 G5 => ⟨_, rfl, F5.o o0, ?_⟩) (fun h5 e ee Z5 F5 n5 p5 L5 => ⟨_, rfl, F5.o o0, ?_⟩)⟩)
  · have OB5 := O.fz F5 h0 eY
    refine s11_endReading OB5.1 OB5.2.1.2.1 OB5.2.1.1 (F5.o L.2.2.2.2.1.1) (F5.o L.1) (fun h8 F8 x1 x2 x3 => ⟨rfl, br_f (by decide +kernel) ⟨F8.o OB5.1, ?_⟩⟩)
    have OB8 := cOb_fr OB5 F8 (by decide)
    refine ⟨_, OB8.2.2.2.2.1, _, OB8.2.2.2.2.2, fun h13 e13 h15 e15 => ?_⟩
    have G13 : fr [] [(0, 10), (0, 11)] h8 h13 := by rw [e13]; exact fr_pF (by simp) OB8.1 rfl rfl
    have G15 : fr [] [(0, 10), (0, 11)] h13 h15 := by rw [e15]; exact fr_pF (by simp) (G13.o OB8.1) rfl rfl
    have GG := G13.tr G15
    have o15 := GG.o OB8.1
    have OB15 : cOb h15 t2 t := by
      refine ⟨o15, ⟨by rw [GG.gr (by simp)]; exact OB8.2.1.1, by rw [GG.gr (by simp)]; exact OB8.2.1.2.1, by rw [GG.gr (by simp)]; exact OB8.2.1.2.2.1, by rw [GG.gr (by simp)]; exact OB8.2.1.2.2.2⟩, ⟨by rw [GG.gr (by simp)]; exact OB8.2.2.1.1, by rw [GG.gr (by simp)]; exact OB8.2.2.1.2.1, by rw [GG.gr (by simp)]; exact OB8.2.2.1.2.2.1, by rw [GG.gr (by simp)]; exact OB8.2.2.1.2.2.2⟩, ⟨by rw [GG.gr (by simp)]; exact OB8.2.2.2.1.1, by rw [GG.gr (by simp)]; exact OB8.2.2.2.1.2⟩, ?_, ?_⟩
      · rw [e15, gR_pF_n (Or.inr (by decide)), e13]; exact gR_pF_s OB8.1 (by decide)
      · rw [e15]; exact gR_pF_s (G13.o OB8.1) (by decide)
    have FB : fr [] [(2, 5), (0, 13), (0, 14), (0, 10), (0, 11)] h5 h15 := (F8.mo (by simp) (by simp)).tr (GG.mo (by simp) (by simp))
    have W15 : cTw h15 t2 R q.1 := W5.fr FB ht (by decide) (by decide)
    have FA : fz h.1 (XAr t2) (YAr t2) h h15 := (F5.mo (Nat.le_refl _) (fun k _ hk => List.mem_append_right _ hk) (fun k _ hk => List.mem_append_right _ (List.mem_append_right _ hk))).tr ((FB.z (n := h.1) F5.1.2.1).mo (Nat.le_refl _) (fun _ _ z => by simp at z) (fun k _ hk => by simp at hk; rcases hk with rfl | rfl | rfl | rfl | rfl <;> simp [YAr, YAf]))
    have ss : XAr t2 = 36 :: XRR t2 := rfl
    have n36 : 36 ∉ XRR t2 := by rcases ht with rfl | rfl <;> decide
    have E15 : cEn h15 33 oo := (E.fz F5 n36 (by rcases ht with rfl | rfl <;> decide) (by rcases ht with rfl | rfl <;> decide) (by rcases ht with rfl | rfl <;> decide)).fz (FB.z (n := h5.1) (Nat.le_refl _)) (by simp) (by simp) (by simp) (by simp)
    have S15 := S.fz FA
    obtain ⟨wk, ⟨-, -, a1, a2, a3⟩, -, -, bl⟩ := id W15
    refine ⟨_, OB15.2.2.2.1.1, _, OB15.2.2.2.2.1, E15.1, s1_beginWith (o := fun v => aR h15 (t2 + 6) v) E15 S15.1.2.2.2 ht wk.1 a1 ⟨a2, a3⟩ (fun _ _ => rfl) (fun v b hv hb => ?_) (fun h20 F20 E20 g1 g2 => ⟨rfl, ?_⟩)⟩
    · have := bl v hv
      cases z : q.1.2.1 v with
      | false => rw [this.1 z] at hb; cases hb
      | true =>
        obtain ⟨bl', y1, y2, y3⟩ := this.2 z
        rw [y1] at hb
        cases hb
        exact y3.1
    have W20 : cTw h20 t2 R q.1 := cTw_fw W15 F20 ht (by decide) (by decide)
    have OB20 := cOb_fr OB15 F20 (by decide)
    have fsub : ∀ {a b : zH} (X : List Nat) (Y : List (Nat × Nat)), h.1 ≤ a.1 → fr X Y a b → X.all (fun k => [36].contains k) = true → Y.all (fun k => [(0, 10), (0, 11), (33, 3), (37, 4), (43, 4), (52, 4), (61, 4), (12, 7), (12, 8), (19, 4), (21, 3)].contains k) = true → fz h.1 (XAr t2) (YAr t2) a b := fun X Y hl F hX hY => (F.z hl).mo (Nat.le_refl _) (fun k _ hk => List.mem_append_left _ (List.contains_iff_mem.mp (List.all_eq_true.mp hX k hk))) (fun k _ hk => List.mem_append_left _ (List.contains_iff_mem.mp (List.all_eq_true.mp hY k hk)))
    have m15 : h.1 ≤ h15.1 := FA.1.2.1
    have F20z := fsub _ _ m15 F20 (by decide) (by decide)
    have B20 : cBxR h20 := by
      obtain ⟨y1, y2, y3, y4, y5⟩ := Bx
      have FF := FA.tr F20z
      have n42 : 42 ∉ XAr t2 := by rcases ht with rfl | rfl <;> decide
      exact ⟨FF.o y1, OB20.2.2.2.1.2, FF.rk y3, by rw [FF.n (by omega)]; exact y4, fun k hk => by rw [FF.r (by omega) n42]; exact y5 k hk⟩
    have lt3 : ∀ (d k : Nat) (h1 : zH), k + d = 3 → fr [] [(43, 4), (52, 4), (61, 4)] h20 h1 → (∀ j, j < k → gI h1 (43 + 9 * j) 4 = 0) → zX mX11_roll 53 [.ref 0, .float 0, .float 0, .int (nI k)] [] h1 Q := by
      intro d
      induction d with
      | zero =>
        intro k h1 hk F1 Z1
        have : k = 3 := by omega
        subst this
        have OB1 := cOb_fr OB20 F1 (by decide)
        have S1 : cOs h1 := (S15.fz F20z).fz (F1.z (n := h20.1) (Nat.le_refl _))
        have m20 : h.1 ≤ h20.1 := by have := F20.1.1; omega
        have m1 : h.1 ≤ h1.1 := by have := F1.1.1; omega
        refine bX11_roll_53 _ _ _ _ (br_t (by decide +kernel) ⟨OB1.1, s11_forget OB1.1 OB1.2.1.2.2.2 OB1.2.2.1.1 OB1.2.2.1.2.1 S1.1.1 S1.1.2.1 S1.1.2.2.1 (fun z => absurd z (by decide +kernel)) (fun h3 _ F3 y7 y8 y19 y21 => ⟨rfl, F3.o OB1.1, ?_⟩)⟩)
        have OB3 := cOb_fr OB1 F3 (by decide)
        have FX : fz h.1 (XAr t2) (YAr t2) h h3 := ((FA.tr F20z).tr (fsub _ _ m20 F1 (by decide) (by decide))).tr (fsub _ _ m1 F3 (by decide) (by decide))
        have W3 : cTw h3 t2 R q.1 := cTw_fw (cTw_fw W20 F1 ht (by decide) (by decide)) F3 ht (by decide) (by decide)
        have E3 : cEn h3 33 (fun v => aR h3 (t2 + 6) v) := by
          have a := (E20.fz (F1.z (n := h20.1) (Nat.le_refl _)) (by simp) (by simp) (by simp) (by simp)).fz (F3.z (n := h1.1) (Nat.le_refl _)) (by simp) (by simp) (by simp) (by simp)
          obtain ⟨e1, e2, e3, e4, e6, e7⟩ := a
          refine ⟨e1, e2, e3, e4, e6, fun v hv => ?_⟩
          rw [e7 v hv]
          show aR h15 (t2 + 6) v = aR h3 (t2 + 6) v
          rw [F3.r (by simp), F1.r (by simp), F20.r (by simp <;> omega)]
        refine ⟨_, OB3.2.2.2.2.1, W3.1.1, ?_⟩
        rw [W3.1.2.2.2.2.2.2.1]
        refine H1 h3 q eq Z5 O5 FX (by have := FB.1.1; have := F20.1.1; have := F1.1.1; have := F3.1.1; omega) (by have := FB.1.2; have := F20.1.2; have := F1.1.2; have := F3.1.2; omega) OB3 W3 E3 ⟨?_, ?_⟩ (fun j hj => ?_) ⟨?_, y8, y19, y21⟩ ⟨?_, ?_, ?_⟩
        · rw [F3.gi (by simp), F1.gi (by simp)]; exact g1
        · rw [F3.gi (by simp), F1.gi (by simp)]; exact g2
        · rw [F3.gi (by simp <;> omega)]; exact Z1 j hj
        · rw [y7, F1.gi (by simp), F20.gi (by simp), FB.gi (by simp), F5.gi (by omega) (by rcases ht with rfl | rfl <;> decide)]
        · rw [F3.gi (by simp), F1.gi (by simp), F20.gi (by simp), GG.gi (by simp)]; exact x1
        · rw [F3.gi (by simp), F1.gi (by simp), F20.gi (by simp), GG.gi (by simp), x2]; exact G5.1
        · rw [F3.gi (by simp), F1.gi (by simp), F20.gi (by simp), GG.gi (by simp), x3]; exact G5.2
      | succ d ih =>
        intro k h1 hk F1 Z1
        have OB1 := cOb_fr OB20 F1 (by decide)
        have B1 : cBxR h1 := by
          obtain ⟨y1, y2, y3, y4, y5⟩ := B20
          exact ⟨F1.o y1, OB1.2.2.2.1.2, F1.rk y3, by rw [F1.n]; exact y4, fun k hk => by rw [F1.r (by simp)]; exact y5 k hk⟩
        have S1 : cOs h1 := (S15.fz F20z).fz (F1.z (n := h20.1) (Nat.le_refl _))
        have ob : oK h1 (43 + 9 * k) 1 := by
          have : k = 0 ∨ k = 1 ∨ k = 2 := by omega
          rcases this with rfl | rfl | rfl
          · exact S1.2.1
          · exact S1.2.2.1
          · exact S1.2.2.2
        refine bX11_roll_53 _ _ _ _ (br_f (by rw [nI_lit 3]; exact nI_ge (by omega) (by decide)) ⟨OB1.1, s11_boxAt B1 (fun k' ek hk' => ⟨some _, rfl, _, rfl, ?_⟩) (fun z => absurd ?_ z)⟩)
        · have : k = k' := (nI_eq (by omega) (by omega)).mp ek
          subst this
          refine s11_empty ob (fun h11 F11 z11 => ⟨rfl, ?_⟩)
          rw [nI_1]
          have F11' : fr [] [(43, 4), (52, 4), (61, 4)] h1 h11 := F11.mo (by simp) (fun z hz => by
            simp only [List.mem_cons, List.not_mem_nil, or_false] at hz ⊢
            rw [hz]
            have : k = 0 ∨ k = 1 ∨ k = 2 := by omega
            rcases this with rfl | rfl | rfl <;> simp)
          refine ih (k + 1) h11 (by omega) (F1.tr F11') (fun j hj => ?_)
          by_cases y : j = k
          · rw [y]; exact z11
          · rw [F11.gi (by simp <;> omega)]; exact Z1 j (by omega)
        · have : k = 0 ∨ k = 1 ∨ k = 2 := by omega
          rcases this with rfl | rfl | rfl <;> decide
    exact lt3 3 0 h20 rfl fr.rf (fun j hj => absurd hj (Nat.not_lt_zero j))
  · have OB5 := O.fz F5 h0 eY
    refine s11_endReading OB5.1 OB5.2.1.2.1 OB5.2.1.1 (F5.o L.2.2.2.2.1.1) (F5.o L.1) (fun h8 F8 x1 x2 x3 => ⟨rfl, br_t rfl (H2 h8 e ee Z5 ((F5.mo (Nat.le_refl _) (fun _ _ z => z) (fun k _ hk => List.mem_append_right _ hk)).tr ((F8.z (n := h.1) F5.1.2.1).mo (Nat.le_refl _) (fun _ _ z => by simp at z) (fun k _ hk => List.mem_append_left _ hk))) (by have := F8.1.1; omega) (by have := F8.1.2; omega) x1 (by rw [x2]; exact L5.1) (by rw [x3]; exact L5.2.1))⟩)
end

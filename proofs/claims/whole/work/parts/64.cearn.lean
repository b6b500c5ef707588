/-! ===== the class: Earnest ===== -/
section
variable {h h' : zH} {Q : Option Value → zH → Prop} {X : List Nat} {Y : List (Nat × Nat)} {t V N a d : Nat} {st wt mk : Nat → Nat} {f : (Nat → Nat) → Nat → Nat} {o oa ob : Nat → Option Nat} {cn cu : Nat → Nat} {cd : Nat → Nat → Nat × Nat × Nat} {HL HA : List zHd}
theorem s2_become (A : cHl h a HA) (B : cHl h d HL) (hd : a + 5 ≤ d ∨ d + 5 ≤ a) (hl : HL.length ≤ 20) (H : ∀ h', fr [a + 1, a + 2, a + 3, a + 4] [(a, 4)] h h' → cHl h' a HL → Q none h') : zC mX2_become [.ref a, .ref d] h Q := by
  obtain ⟨r0, r1, r2, r3⟩ := A.2.1
  obtain ⟨w0, w1, w2, w3⟩ := B.2.1
  have ka : ∀ k, k < 4 → iK h (a + 1 + k) 0 ∧ aN h (a + 1 + k) = 20 := A.2.2.1
  have kd : ∀ k, k < 4 → iK h (d + 1 + k) 0 ∧ aN h (d + 1 + k) = 20 := B.2.2.1
  refine nX2_become _ _ _ _ (bX2_become_0 _ _ _ _ ⟨B.1, A.1, fun h3 e3 => ?_⟩)
  rw [B.2.2.2.1] at e3
  have F3 : fr [a + 1, a + 2, a + 3, a + 4] [(a, 4)] h h3 := by rw [e3]; exact fr_pF (by simp) A.1 rfl rfl
  have g3 : gI h3 a 4 = nI HL.length := by rw [e3]; exact gI_pF_s A.1 (by decide)
  have o3 : ∀ r, aI h3 r = aI h r := fun r => by rw [e3]; exact funext fun i => aI_pF
  have go : ∀ (m i : Nat) (h0 : zH), i + m = 20 → fr [a + 1, a + 2, a + 3, a + 4] [(a, 4)] h h0 → gI h0 a 4 = nI HL.length → (∀ k, k < 4 → ∀ j, j < i → aI h0 (a + 1 + k) j = aI h (d + 1 + k) j) → zX mX2_become 10 [.ref a, .ref d, .int (nI i)] [] h0 Q := by
    intro m
    induction m with
    | zero =>
      intro i h0 hi F g E
      have : i = 20 := by omega
      subst this
      refine bX2_become_10 _ _ _ _ _ (br_t (by decide +kernel) (H h0 F ⟨F.o A.1, ⟨by rw [F.gr (by simp)]; exact r0, by rw [F.gr (by simp)]; exact r1, by rw [F.gr (by simp)]; exact r2, by rw [F.gr (by simp)]; exact r3⟩, fun k hk => ⟨F.ik (ka k hk).1, by rw [F.n]; exact (ka k hk).2⟩, g, fun n q hq => ?_⟩))
      have hn := (List.getElem?_eq_some_iff.mp hq).1
      have b := B.2.2.2.2 n q hq
      rw [Nat.zero_add] at b ⊢
      rw [show aI h0 (a + 1) n = aI h (d + 1) n from E 0 (by omega) n (by omega), show aI h0 (a + 1 + 1) n = aI h (d + 1 + 1) n from E 1 (by omega) n (by omega), show aI h0 (a + 1 + 2) n = aI h (d + 1 + 2) n from E 2 (by omega) n (by omega), show aI h0 (a + 1 + 3) n = aI h (d + 1 + 3) n from E 3 (by omega) n (by omega)]
      exact b
    | succ m ih =>
      intro i h0 hi F g E
      have src : ∀ (h1 : zH), fr [a + 1, a + 2, a + 3, a + 4] [(a, 4)] h h1 → ∀ k, k < 4 → aI h1 (d + 1 + k) = aI h (d + 1 + k) := fun h1 F1 k hk => F1.i (by simp; omega)
      have oa : ∀ h1, fr [a + 1, a + 2, a + 3, a + 4] [(a, 4)] h h1 → oK h1 a 2 := fun h1 F1 => F1.o A.1
      have od : ∀ h1, fr [a + 1, a + 2, a + 3, a + 4] [(a, 4)] h h1 → oK h1 d 2 := fun h1 F1 => F1.o B.1
      have gd : ∀ h1, fr [a + 1, a + 2, a + 3, a + 4] [(a, 4)] h h1 → ∀ f, gR h1 d f = gR h d f := fun h1 F1 f => F1.gr (by simp; omega)
      have ga : ∀ h1, fr [a + 1, a + 2, a + 3, a + 4] [(a, 4)] h h1 → ∀ f, f < 4 → gR h1 a f = gR h a f := fun h1 F1 f hf => F1.gr (by simp; omega)
      refine bX2_become_10 _ _ _ _ _ (br_f (nI_ge (b := 20) (by omega) (by decide)) ⟨oa h0 F, _, by rw [ga h0 F 0 (by omega)]; exact r0, od h0 F, _, by rw [gd h0 F]; exact w0, s11_atN (n := 20) (F.ik (kd 0 (by omega)).1) (by rw [F.n]; exact (kd 0 (by omega)).2) (by omega) (by decide) ⟨_, rfl, s11_putN (n := 20) (F.ik (ka 0 (by omega)).1) (by rw [F.n]; exact (ka 0 (by omega)).2) (by omega) (by decide) (fun h8 e8 => ⟨rfl, ?_⟩)⟩⟩)
      have F8 : fr [a + 1, a + 2, a + 3, a + 4] [(a, 4)] h0 h8 := by rw [e8]; exact fr_pI (by simp)
      have G8 := F.tr F8
      refine ⟨oa h8 G8, _, by rw [ga h8 G8 1 (by omega)]; exact r1, od h8 G8, _, by rw [gd h8 G8]; exact w1, s11_atN (n := 20) (G8.ik (kd 1 (by omega)).1) (by rw [G8.n]; exact (kd 1 (by omega)).2) (by omega) (by decide) ⟨_, rfl, s11_putN (n := 20) (G8.ik (ka 1 (by omega)).1) (by rw [G8.n]; exact (ka 1 (by omega)).2) (by omega) (by decide) (fun h15 e15 => ⟨rfl, ?_⟩)⟩⟩
      have F15 : fr [a + 1, a + 2, a + 3, a + 4] [(a, 4)] h8 h15 := by rw [e15]; exact fr_pI (by simp)
      have G15 := G8.tr F15
      refine ⟨oa h15 G15, _, by rw [ga h15 G15 2 (by omega)]; exact r2, od h15 G15, _, by rw [gd h15 G15]; exact w2, s11_atN (n := 20) (G15.ik (kd 2 (by omega)).1) (by rw [G15.n]; exact (kd 2 (by omega)).2) (by omega) (by decide) ⟨_, rfl, s11_putN (n := 20) (G15.ik (ka 2 (by omega)).1) (by rw [G15.n]; exact (ka 2 (by omega)).2) (by omega) (by decide) (fun h22 e22 => ⟨rfl, ?_⟩)⟩⟩
      have F22 : fr [a + 1, a + 2, a + 3, a + 4] [(a, 4)] h15 h22 := by rw [e22]; exact fr_pI (by simp)
      have G22 := G15.tr F22
      refine ⟨oa h22 G22, _, by rw [ga h22 G22 3 (by omega)]; exact r3, od h22 G22, _, by rw [gd h22 G22]; exact w3, s11_atN (n := 20) (G22.ik (kd 3 (by omega)).1) (by rw [G22.n]; exact (kd 3 (by omega)).2) (by omega) (by decide) ⟨_, rfl, s11_putN (n := 20) (G22.ik (ka 3 (by omega)).1) (by rw [G22.n]; exact (ka 3 (by omega)).2) (by omega) (by decide) (fun h29 e29 => ⟨rfl, ?_⟩)⟩⟩
      have F29 : fr [a + 1, a + 2, a + 3, a + 4] [(a, 4)] h22 h29 := by rw [e29]; exact fr_pI (by simp)
      rw [show aI h0 (d + 1) i = aI h (d + 1) i by rw [src h0 F 0 (by omega)]] at e8
      rw [show aI h8 (d + 2) i = aI h (d + 2) i by rw [src h8 G8 1 (by omega)]] at e15
      rw [show aI h15 (d + 3) i = aI h (d + 3) i by rw [src h15 G15 2 (by omega)]] at e22
      rw [show aI h22 (d + 4) i = aI h (d + 4) i by rw [src h22 G22 3 (by omega)]] at e29
      rw [nI_1]
      refine ih (i + 1) h29 (by omega) (G22.tr F29) (by rw [e29, gI_pI, e22, gI_pI, e15, gI_pI, e8, gI_pI]; exact g) (fun k hk j hj => ?_)
      have hk' : k = 0 ∨ k = 1 ∨ k = 2 ∨ k = 3 := by omega
      by_cases z : j = i
      · subst z
        rcases hk' with rfl | rfl | rfl | rfl
        · rw [e29, aI_pI_n (Or.inl (by omega)), e22, aI_pI_n (Or.inl (by omega)), e15, aI_pI_n (Or.inl (by omega)), e8]; exact aI_pI_s ⟨_, F.ik (ka 0 (by omega)).1⟩
        · rw [e29, aI_pI_n (Or.inl (by omega)), e22, aI_pI_n (Or.inl (by omega)), e15]; exact aI_pI_s ⟨_, G8.ik (ka 1 (by omega)).1⟩
        · rw [e29, aI_pI_n (Or.inl (by omega)), e22]; exact aI_pI_s ⟨_, G15.ik (ka 2 (by omega)).1⟩
        · rw [e29]; exact aI_pI_s ⟨_, G22.ik (ka 3 (by omega)).1⟩
      · rw [e29, aI_pI_n (Or.inr z), e22, aI_pI_n (Or.inr z), e15, aI_pI_n (Or.inr z), e8, aI_pI_n (Or.inr z)]
        exact E k hk j (by omega)
  exact go 20 0 h3 rfl F3 g3 (fun k _ j hj => absurd hj (Nat.not_lt_zero _))
theorem cEn.fr (E : cEn h a o) (F : fr X Y h h') (hX : a + 3 ∉ X) (h0 : (a, 0) ∉ Y) (h1 : (a, 1) ∉ Y) (h2 : (a, 2) ∉ Y) : cEn h' a o := E.fz (F.z (Nat.le_refl _)) hX h0 h1 h2
theorem s1_become (A : cEn h a oa) (B : cEn h d ob) (KA : cHl h (a + 4) HA) (KB : cHl h (d + 4) HL) (hd : a + 9 ≤ d ∨ d + 9 ≤ a) (hl : HL.length ≤ 20) (hb : ∀ v b, v < 8 → ob v = some b → oK h b 0) (H : ∀ h', fr [a + 3, a + 5, a + 6, a + 7, a + 8] [(a, 3), (a + 4, 4)] h h' → cEn h' a ob → cHl h' (a + 4) HL → gI h' a 3 = gI h d 3 → Q none h') : zC mX1_become [.ref a, .ref d] h Q := by
  obtain ⟨a1, a2, a3, ⟨a4, a5⟩, a6, a7⟩ := A
  obtain ⟨b1, b2, b3, ⟨b4, b5⟩, b6, b7⟩ := B
  refine nX1_become _ _ _ _ (bX1_become_0 _ _ _ _ ⟨b1, a1, fun h3 e3 => ?_⟩)
  have F3 : fr [a + 3, a + 5, a + 6, a + 7, a + 8] [(a, 3), (a + 4, 4)] h h3 := by rw [e3]; exact fr_pF (by simp) a1 rfl rfl
  have g3 : gI h3 a 3 = gI h d 3 := by rw [e3]; exact gI_pF_s a1 (by decide)
  refine ⟨_, by rw [F3.gr (by simp)]; exact a6, _, by rw [F3.gr (by simp)]; exact b6, F3.o KA.1, ?_⟩
  have A3 : cHl h3 (a + 4) HA := by
    have : ∀ r, aI h3 r = aI h r := fun r => by rw [e3]; exact funext fun i => aI_pF
    refine ⟨F3.o KA.1, ⟨by rw [F3.gr (by simp)]; exact KA.2.1.1, by rw [F3.gr (by simp)]; exact KA.2.1.2.1, by rw [F3.gr (by simp)]; exact KA.2.1.2.2.1, by rw [F3.gr (by simp)]; exact KA.2.1.2.2.2⟩, fun k hk => ⟨F3.ik (KA.2.2.1 k hk).1, by rw [F3.n]; exact (KA.2.2.1 k hk).2⟩, by rw [e3, gI_pF_n (Or.inl (by omega))]; exact KA.2.2.2.1, fun n q hq => by rw [this, this, this, this]; exact KA.2.2.2.2 n q hq⟩
  have B3 : cHl h3 (d + 4) HL := by
    have : ∀ r, aI h3 r = aI h r := fun r => by rw [e3]; exact funext fun i => aI_pF
    refine ⟨F3.o KB.1, ⟨by rw [F3.gr (by simp)]; exact KB.2.1.1, by rw [F3.gr (by simp)]; exact KB.2.1.2.1, by rw [F3.gr (by simp)]; exact KB.2.1.2.2.1, by rw [F3.gr (by simp; omega)]; exact KB.2.1.2.2.2⟩, fun k hk => ⟨F3.ik (KB.2.2.1 k hk).1, by rw [F3.n]; exact (KB.2.2.1 k hk).2⟩, by rw [e3, gI_pF_n (Or.inl (by omega))]; exact KB.2.2.2.1, fun n q hq => by rw [this, this, this, this]; exact KB.2.2.2.2 n q hq⟩
  refine s2_become A3 B3 (by omega) hl (fun h9 F9 C9 => ⟨rfl, ?_⟩)
  have F9' : fr [a + 3, a + 5, a + 6, a + 7, a + 8] [(a, 3), (a + 4, 4)] h3 h9 := F9.mo (by simp) (by simp)
  have FF := F3.tr F9'
  have g9 : gI h9 a 3 = gI h d 3 := by rw [F9.gi (by simp)]; exact g3
  have go : ∀ (m i : Nat) (h0 : zH), i + m = 8 → fr [a + 3] [] h9 h0 → (∀ j, j < i → aR h0 (a + 3) j = ob j) → zX mX1_become 21 [.ref a, .ref d, .int (nI i)] [] h0 Q := by
    intro m
    induction m with
    | zero =>
      intro i h0 hi F E
      have : i = 8 := by omega
      subst this
      have FA := FF.tr (F.mo (X' := [a + 3, a + 5, a + 6, a + 7, a + 8]) (Y' := [(a, 3), (a + 4, 4)]) (by simp) (by simp))
      refine bX1_become_21 _ _ _ _ _ ⟨FA.o a1, _, by rw [FA.gr (by simp)]; exact a3, FA.rk a4, br_t (by rw [FA.n, a5]; decide +kernel) ?_⟩
      refine H h0 FA ⟨FA.o a1, by rw [FA.gr (by simp)]; exact a2, by rw [FA.gr (by simp)]; exact a3, ⟨FA.rk a4, by rw [FA.n]; exact a5⟩, by rw [FA.gr (by simp)]; exact a6, E⟩ (C9.fz (F.z (Nat.le_refl _)) (fun k hk => by simp; omega) (by simp)) (by rw [F.gi (by simp)]; exact g9)
    | succ m ih =>
      intro i h0 hi F E
      have FA := FF.tr (F.mo (X' := [a + 3, a + 5, a + 6, a + 7, a + 8]) (Y' := [(a, 3), (a + 4, 4)]) (by simp) (by simp))
      have ci : (nI i).toNatClampNeg = i := nI_clamp (by omega)
      have sv : aR h0 (d + 3) i = ob i := by rw [FA.r (by simp; omega)]; exact b7 i (by omega)
      refine bX1_become_21 _ _ _ _ _ ⟨FA.o a1, _, by rw [FA.gr (by simp)]; exact a3, FA.rk a4, br_f (by rw [FA.n, a5]; exact nI_ge (b := 8) (by omega) (by decide)) ⟨FA.o b1, _, by rw [FA.gr (by simp)]; exact b3, FA.rk b4, br_f (by rw [FA.n, b5]; exact nI_ge (b := 8) (by omega) (by decide)) ⟨by rw [FA.n, b5]; exact vp_in_nI (by omega) (by decide), ?_⟩⟩⟩
      rw [ci, sv]
      refine ⟨fun v hv => FA.o (hb i v (by omega) hv), by rw [FA.n, a5]; exact vp_in_nI (by omega) (by decide), fun h18 e18 => ?_⟩
      rw [nI_1]
      refine ih (i + 1) h18 (by omega) (F.tr (by rw [e18]; exact fr_pR (by simp))) (fun j hj => ?_)
      by_cases z : j = i
      · rw [e18, z]; exact aR_pR_s ⟨_, FA.rk a4⟩
      · rw [e18, aR_pR_n (Or.inr z)]; exact E j (by omega)
  exact go 8 0 h9 rfl fr.rf (fun j hj => absurd hj (Nat.not_lt_zero _))
theorem s1_otherBallots (A : cEn h a oa) (B : cEn h d ob) (H : Q (some (.int (nI (bN (fun v => decide (oa v ≠ ob v)) 8)))) h) : zC mX1_otherBallots [.ref a, .ref d] h Q := by
  obtain ⟨a1, a2, a3, ⟨a4, a5⟩, a6, a7⟩ := A
  obtain ⟨b1, b2, b3, ⟨b4, b5⟩, b6, b7⟩ := B
  have go : ∀ (m i : Nat), i + m = 8 → zX mX1_otherBallots 4 [.ref a, .ref d, .int (nI (bN (fun v => decide (oa v ≠ ob v)) i)), .int (nI i)] [] h Q := by
    intro m
    induction m with
    | zero =>
      intro i hi
      have : i = 8 := by omega
      subst this
      exact bX1_otherBallots_4 _ _ _ _ _ _ ⟨a1, _, a3, a4, br_t (by rw [a5]; decide +kernel) H⟩
    | succ m ih =>
      intro i hi
      have nx := ih (i + 1) (by omega)
      rw [bN] at nx
      have ci : (nI i).toNatClampNeg = i := nI_clamp (by omega)
      refine bX1_otherBallots_4 _ _ _ _ _ _ ⟨a1, _, a3, a4, br_f (by rw [a5]; exact nI_ge (b := 8) (by omega) (by decide)) ⟨b1, _, b3, b4, br_f (by rw [b5]; exact nI_ge (b := 8) (by omega) (by decide)) ⟨by rw [a5]; exact vp_in_nI (by omega) (by decide), by rw [b5]; exact vp_in_nI (by omega) (by decide), ?_⟩⟩⟩
      rw [ci, a7 i (by omega), b7 i (by omega), nI_1]
      refine ⟨fun q => ?_, fun q => ?_⟩
      · rw [decide_eq_false (by simpa using q)] at nx
        simpa using nx
      · rw [decide_eq_true (by simpa using q), if_pos rfl] at nx
        rw [nI_1shl (by omega), nI_or]; exact nx
  exact nX1_otherBallots _ _ _ _ (bX1_otherBallots_0 _ _ _ _ (go 8 0 rfl))
theorem s1_units (E : cEn h 33 o) (B : ∀ v, v < 8 → oK h ((o v).getD 34) 0 ∧ gI h ((o v).getD 34) 1 = nI (cu v)) (H : Q (some (.int (nI (sm cu 0 8)))) h) : zC mX1_units [.ref 33] h Q := by
  have go : ∀ (m i : Nat), i + m = 8 → zX mX1_units 4 [.ref 33, .int (nI (sm cu 0 i)), .int (nI i)] [] h Q := by
    intro m
    induction m with
    | zero =>
      intro i hi
      have : i = 8 := by omega
      subst this
      exact bX1_units_4 _ _ _ _ _ ⟨E.1, _, E.2.2.1, E.2.2.2.1.1, br_t (by rw [E.2.2.2.1.2]; decide +kernel) H⟩
    | succ m ih =>
      intro i hi
      have nx := ih (i + 1) (by omega)
      rw [sm_last, Nat.zero_add] at nx
      have b := B i (by omega)
      refine bX1_units_4 _ _ _ _ _ ⟨E.1, _, E.2.2.1, E.2.2.2.1.1, br_f (by rw [E.2.2.2.1.2]; exact nI_ge (b := 8) (by omega) (by decide)) (s1_ballotOf E (by omega) ⟨_, rfl, _, rfl, b.1, ?_⟩)⟩
      rw [b.2, nI_add, nI_1]
      exact nx
  exact nX1_units _ _ _ (bX1_units_0 _ _ _ (go 8 0 rfl))
end

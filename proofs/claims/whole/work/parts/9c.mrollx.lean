/-! ===== the reference: roll, reword ===== -/
section
variable {h h' h0 : zH} {Q : Option Value → zH → Prop} {n i rb b N ns V : Nat} {bs : Nat → Nat} {r : zRl} {e : Nat × Nat} {st wt cn cu : Nat → Nat} {cd : Nat → Nat → zOp} {K : zKs}
/-- the other bank stays -/
def bkE (rb : Nat) (h h' : zH) : Prop := (∀ b, b ≠ rb → (aI h' 87 b = aI h 87 b ∧ aI h' 88 b = aI h 88 b ∧ aI h' 89 b = aI h 89 b ∧ aI h' 90 b = aI h 90 b) ∧ (∀ j, j < 3 → aL h' 91 (3 * b + j) = aL h 91 (3 * b + j)) ∧ (∀ j, j < 4 → aL h' 92 (4 * b + j) = aL h 92 (4 * b + j)) ∧ (∀ j, j < 8 → aL h' 93 (8 * b + j) = aL h 93 (8 * b + j)) ∧ (∀ j, j < 8 → aI h' 94 (8 * b + j) = aI h 94 (8 * b + j) ∧ aI h' 95 (8 * b + j) = aI h 95 (8 * b + j) ∧ aI h' 96 (8 * b + j) = aI h 96 (8 * b + j))) ∧ ∀ p, p / 8 ≠ rb → slE h h' p
theorem bkE.rf : bkE rb h h := (mFr.rf (rb := rb)).2
theorem bkE.tr {h1 h2 : zH} (a : bkE rb h h1) (c : bkE rb h1 h2) : bkE rb h h2 := by
  refine ⟨fun x hx => ?_, fun p hp => (a.2 p hp).tr (c.2 p hp)⟩
  obtain ⟨⟨a1, a2, a3, a4⟩, a5, a6, a7, a8⟩ := a.1 x hx
  obtain ⟨⟨b1, b2, b3, b4⟩, b5, b6, b7, b8⟩ := c.1 x hx
  exact ⟨⟨b1.trans a1, b2.trans a2, b3.trans a3, b4.trans a4⟩, fun j hj => (b5 j hj).trans (a5 j hj), fun j hj => (b6 j hj).trans (a6 j hj), fun j hj => (b7 j hj).trans (a7 j hj), fun j hj => ⟨(b8 j hj).1.trans (a8 j hj).1, (b8 j hj).2.1.trans (a8 j hj).2.1, (b8 j hj).2.2.trans (a8 j hj).2.2⟩⟩
theorem bkE.of {X : List Nat} {Y : List (Nat × Nat)} (F : fr X Y h h') (hn : [87, 88, 89, 90, 91, 92, 93, 94, 95, 96, 97, 98, 99, 100, 101].all (fun k => !(X.contains k)) = true) : bkE rb h h' := by
  have hn' : ∀ k, k ∈ [87, 88, 89, 90, 91, 92, 93, 94, 95, 96, 97, 98, 99, 100, 101] → k ∉ X := fun k hk => ni_of (List.all_eq_true.mp hn k hk)
  refine ⟨fun b _ => ⟨⟨?_, ?_, ?_, ?_⟩, fun j _ => ?_, fun j _ => ?_, fun j _ => ?_, fun j _ => ⟨?_, ?_, ?_⟩⟩, fun p _ => slE.of F ?_⟩
  · rw [F.i (hn' 87 (by decide))]
  · rw [F.i (hn' 88 (by decide))]
  · rw [F.i (hn' 89 (by decide))]
  · rw [F.i (hn' 90 (by decide))]
  · rw [F.l (hn' 91 (by decide))]
  · rw [F.l (hn' 92 (by decide))]
  · rw [F.l (hn' 93 (by decide))]
  · rw [F.i (hn' 94 (by decide))]
  · rw [F.i (hn' 95 (by decide))]
  · rw [F.i (hn' 96 (by decide))]
  · simp only [List.all_cons, List.all_nil, and_true, Bool.and_eq_true]
    have f : ∀ k, k ∈ [87, 88, 89, 90, 91, 92, 93, 94, 95, 96, 97, 98, 99, 100, 101] → (!(X.contains k)) = true := List.all_eq_true.mp hn
    exact ⟨f 97 (by decide), f 98 (by decide), f 99 (by decide), f 100 (by decide), f 101 (by decide)⟩
/-- the bank is emptied -/
theorem s12_clearBank (M : mLay h) (g27 : gI h 84 27 = nI rb) (hrb : rb < 2) (H : ∀ h', mFr rb h h' → fr [87, 88, 89, 90, 96, 97, 98] [] h h' → mRl h' rb rl0 → Q none h') : zC mX12_clearBank [.ref 84] h Q := by
  have crb : (nI rb).toNatClampNeg = rb := nI_clamp (by omega)
  refine nX12_clearBank _ _ _ (bX12_clearBank_0 _ _ _ ⟨M.o, _, M.r11, M.k11, ?_⟩)
  rw [g27, crb, M.n11]
  refine ⟨vp_in_nI hrb (by decide), fun h5 e5 => ?_⟩
  have G5 : fr [87, 88, 89, 90, 96, 97, 98] [] h h5 := by rw [e5]; exact fr_pI (by simp)
  have M5 : mLay h5 := M.fr G5 (by decide)
  refine ⟨_, M5.r12, M5.k12, ?_⟩
  rw [G5.gi (by simp), g27, crb, M5.n12]
  refine ⟨vp_in_nI hrb (by decide), fun h11 e11 => ?_⟩
  have G11 : fr [87, 88, 89, 90, 96, 97, 98] [] h5 h11 := by rw [e11]; exact fr_pI (by simp)
  have M11 : mLay h11 := M5.fr G11 (by decide)
  refine ⟨_, M11.r13, M11.k13, ?_⟩
  rw [G11.gi (by simp), G5.gi (by simp), g27, crb, M11.n13]
  refine ⟨vp_in_nI hrb (by decide), fun h18 e18 => ?_⟩
  have G18 : fr [87, 88, 89, 90, 96, 97, 98] [] h11 h18 := by rw [e18]; exact fr_pI (by simp)
  have M18 : mLay h18 := M11.fr G18 (by decide)
  refine ⟨_, M18.r14, M18.k14, ?_⟩
  rw [G18.gi (by simp), G11.gi (by simp), G5.gi (by simp), g27, crb, M18.n14]
  refine ⟨vp_in_nI hrb (by decide), fun h26 e26 => ?_⟩
  have G26 : fr [87, 88, 89, 90, 96, 97, 98] [] h18 h26 := by rw [e26]; exact fr_pI (by simp)
  have GA := G5.tr (G11.tr (G18.tr G26))
  have WA : mFr rb h h26 := by
    rw [e26, e18, e11, e5]
    exact (mFr_pI (x := 0) (Or.inl ⟨Or.inl rfl, rfl⟩)).tr ((mFr_pI (x := 0) (Or.inl ⟨Or.inr (Or.inl rfl), rfl⟩)).tr ((mFr_pI (x := 0) (Or.inl ⟨Or.inr (Or.inr (Or.inl rfl)), rfl⟩)).tr (mFr_pI (x := 0) (Or.inl ⟨Or.inr (Or.inr (Or.inr rfl)), rfl⟩))))
  have a87 : aI h26 87 rb = 0 := by rw [e26, aI_pI_n (Or.inl (by decide)), e18, aI_pI_n (Or.inl (by decide)), e11, aI_pI_n (Or.inl (by decide)), e5]; exact aI_pI_s ⟨_, M.k11⟩
  have a88 : aI h26 88 rb = 0 := by rw [e26, aI_pI_n (Or.inl (by decide)), e18, aI_pI_n (Or.inl (by decide)), e11]; exact aI_pI_s ⟨_, M5.k12⟩
  have a89 : aI h26 89 rb = 0 := by rw [e26, aI_pI_n (Or.inl (by decide)), e18]; exact aI_pI_s ⟨_, M11.k13⟩
  have a90 : aI h26 90 rb = 0 := by rw [e26]; exact aI_pI_s ⟨_, M18.k14⟩
  have go : ∀ (d j : Nat) (h0 : zH), j + d = 8 → fr [96, 97, 98] [] h26 h0 → bkE rb h26 h0 → (∀ v, v < j → aI h0 96 (8 * rb + v) = 0 ∧ aI h0 97 (8 * rb + v) = 0 ∧ aI h0 98 (8 * rb + v) = 0) → zX mX12_clearBank 42 [.ref 84, .int (nI j)] [] h0 Q := by
    intro d
    induction d with
    | zero =>
      intro j h0 hj F B Z
      have : j = 8 := by omega
      subst this
      refine bX12_clearBank_42 _ _ _ _ (br_t (by decide +kernel) (H h0 ⟨GA.mo (by simp) (by simp) |>.tr (F.mo (by simp) (by simp)), bkE.tr WA.2 B⟩ (GA.tr (F.mo (by simp) (by simp))) ⟨⟨by rw [F.gi (by simp), GA.gi (by simp)]; exact g27, hrb, ⟨by rw [F.i (by simp)]; exact a87, fun j hj => absurd hj (Nat.not_lt_zero j)⟩, ⟨by rw [F.i (by simp)]; exact a88, fun j hj => absurd hj (Nat.not_lt_zero j)⟩, ⟨by rw [F.i (by simp)]; exact a89, fun j hj => absurd hj (Nat.not_lt_zero j)⟩⟩, fun v hv => absurd hv (Nat.not_lt_zero v), fun v hv => (Z v hv).1, ?_, fun v hv => ⟨⟨(Z v hv).2.1, Nat.zero_le _, fun j hj => absurd hj (Nat.not_lt_zero j)⟩, (Z v hv).2.2⟩⟩))
      rw [F.i (by simp), a90]
      show (0 : Int32) = nI (sm (fun _ => 0) 0 8)
      decide +kernel
    | succ d ih =>
      intro j h0 hj F B Z
      have M0 : mLay h0 := M.fr (GA.tr (F.mo (X' := [87, 88, 89, 90, 96, 97, 98]) (Y' := []) (by simp) (by simp))) (by decide)
      have g0 : gI h0 84 27 = nI rb := by rw [F.gi (by simp), GA.gi (by simp)]; exact g27
      have cj : (nI (8 * rb + j)).toNatClampNeg = 8 * rb + j := nI_clamp (by omega)
      refine bX12_clearBank_42 _ _ _ _ (br_f (by rw [nI_lit 8]; exact nI_ge (by omega) (by decide)) ⟨M0.o, _, M0.r20, M0.k20, ?_⟩)
      rw [g0, ix8, cj, M0.n20]
      refine ⟨vp_in_nI (by omega) (by decide), fun h6 e6 => ?_⟩
      have G6 : fr [96, 97, 98] [] h0 h6 := by rw [e6]; exact fr_pI (by simp)
      have M6 : mLay h6 := M0.fr G6 (by decide)
      refine ⟨_, M6.r21, M6.k21, ?_⟩
      rw [G6.gi (by simp), g0, ix8, cj, M6.n21]
      refine ⟨vp_in_nI (by omega) (by decide), fun h12 e12 => ?_⟩
      have G12 : fr [96, 97, 98] [] h6 h12 := by rw [e12]; exact fr_pI (by simp)
      have M12 : mLay h12 := M6.fr G12 (by decide)
      refine ⟨_, M12.r22, M12.k22, ?_⟩
      rw [G12.gi (by simp), G6.gi (by simp), g0, ix8, cj, M12.n22]
      refine ⟨vp_in_nI (by omega) (by decide), fun h19 e19 => ?_⟩
      have G19 : fr [96, 97, 98] [] h12 h19 := by rw [e19]; exact fr_pI (by simp)
      rw [nI_1]
      have ne : ∀ c k, (k ≠ 8 * rb + j ∨ (c ≠ 96 ∧ c ≠ 97 ∧ c ≠ 98)) → aI h19 c k = aI h0 c k := fun c k hc => by
        rw [e19, aI_pI_n (by omega), e12, aI_pI_n (by omega), e6, aI_pI_n (by omega)]
      refine ih (j + 1) h19 (by omega) (F.tr (G6.tr (G12.tr G19))) (B.tr ⟨fun b hb => ⟨⟨ne _ _ (by omega), ne _ _ (by omega), ne _ _ (by omega), ne _ _ (by omega)⟩, fun k _ => by rw [G19.l (by simp), G12.l (by simp), G6.l (by simp)], fun k _ => by rw [G19.l (by simp), G12.l (by simp), G6.l (by simp)], fun k _ => by rw [G19.l (by simp), G12.l (by simp), G6.l (by simp)], fun k hk => ⟨ne _ _ (by omega), ne _ _ (by omega), ne _ _ (by omega)⟩⟩, fun p hp => ⟨ne _ _ (by omega), ne _ _ (by omega), fun k hk => ⟨ne _ _ (by omega), ne _ _ (by omega), ne _ _ (by omega)⟩⟩⟩) (fun v hv => ?_)
      by_cases z : v = j
      · rw [z]
        refine ⟨?_, ?_, ?_⟩
        · rw [e19, aI_pI_n (Or.inl (by decide)), e12, aI_pI_n (Or.inl (by decide)), e6, aI_pI_s ⟨_, M0.k20⟩]; decide +kernel
        · rw [e19, aI_pI_n (Or.inl (by decide)), e12]; exact aI_pI_s ⟨_, M6.k21⟩
        · rw [e19]; exact aI_pI_s ⟨_, M12.k22⟩
      · rw [ne _ _ (by omega), ne _ _ (by omega), ne _ _ (by omega)]; exact Z v (by omega)
  exact go 8 0 h26 rfl fr.rf bkE.rf (fun v hv => absurd hv (Nat.not_lt_zero v))
/-- the roll is the town, its ballots -/
theorem mRl.mT (A : mRl h b r) (O : rlO r) (M : mLay h) (g26 : gI h 84 26 = nI b) : mT h b r.1.1.1.1 r.1.1.2.1.1 r.1.1.2.2.1 r.1.2.1 r.1.2.2 :=
  ⟨M, g26, A.1.2.1, A.1.2.2.1.1, O.1.1.1, A.1.2.2.2.1.1, O.1.2.1.1, A.1.2.2.2.2.1, O.1.2.2.1, fun v hv => ⟨(A.2.1 v hv).1, (A.2.1 v hv).2, (O.2.1 v hv).1, (O.2.1 v hv).2.2⟩⟩
theorem mRl.mB (A : mRl h b r) (O : rlO r) : mB h b r.1.1.2.2.1 r.1.1.1.1 (fun v => (r.2.2 v).1) (fun v => (r.2.2 v).2.1) := fun v hv => ⟨(A.2.2.2.2 v (by have := O.1.2.2.1; omega)).1, O.2.2.2.2.1 v⟩
abbrev XRo : List Nat := [86, 87, 88, 89, 90, 91, 92, 93, 94, 95, 96, 97, 98, 99, 100, 101, 102, 103, 104, 105, 106, 107, 108, 109, 111, 120]
abbrev YRo : List (Nat × Nat) := [(84, 2), (84, 3), (84, 4), (84, 5), (84, 6), (84, 7), (84, 8), (84, 9), (84, 10), (84, 26), (84, 27), (84, 32), (84, 33), (84, 34), (84, 35), (84, 36), (84, 37), (84, 43), (84, 54)]
theorem s12_roll {d : Nat} (M : mLay h) (T : mTp h n bs) (g26 : gI h 84 26 = nI b) (hb : b < 2) (g40 : gI h 84 40 = -1) (Z : lnsS n bs d rl0 0)
    (H1 : ∀ q h', lns n bs d rl0 0 = .inr q → rlO q.1 → fr XRo YRo h h' → mRl h' (1 - b) q.1 → gI h' 84 26 = nI (1 - b) → gI h' 84 54 = 0 → (∀ j, j < 3 → aI h' 120 j = -1) → (∀ v, v < 8 → aI h' 111 v = 0) → mS h' q.1.1.1.1.1 q.1.1.1.2.2.1 (syF q.1.1.1.2.2.1 q.1.1.1.1.1 q.1.1.2.1 q.1.1.2.2 (fun v => (q.1.2.2 v).1) (fun v => (q.1.2.2 v).2.1)) → gI h' 84 2 = 0 → gI h' 84 4 = 0 → gI h' 84 5 = -1 → Q (some (.int (nI q.1.1.1.2.2.1))) h')
    (H2 : ∀ e h', lns n bs d rl0 0 = .inl e → fr XRo YRo h h' → bkE (1 - b) h h' → mFl h' e → gI h' 84 2 = 0 → gI h' 84 26 = nI b → (∀ k, k = 106 ∨ k = 107 ∨ k = 108 ∨ k = 109 ∨ k = 111 ∨ k = 120 → aI h' k = aI h k) → gI h' 84 43 = gI h 84 43 → gI h' 84 54 = gI h 84 54 → Q (some (.int (-1))) h') : zC mX12_roll [.ref 84] h Q := by
  have b1 : 1 - b < 2 := by omega
  refine nX12_roll _ _ _ (bX12_roll_0 _ _ _ ⟨M.o, s12_takeTape M T (fun h2 F2 P2 g2 g25 g22 => ⟨rfl, P2.1.o, fun h4 e4 => ?_⟩)⟩)
  rw [F2.gi (by simp), g26, nI_lit 1, nI_sub (by omega)] at e4
  have F4 : fr [] [(84, 27)] h2 h4 := by rw [e4]; exact fr_pF (by simp) P2.1.o rfl rfl
  have P4 : mPs h4 n bs 0 := P2.fr F4 (by simp) (by decide) (by simp) (by decide)
  have g4 : mGd h4 := g2.fr F4 (by simp)
  have F24 : fr [86] [(84, 2), (84, 3), (84, 4), (84, 5), (84, 6), (84, 7), (84, 8), (84, 9), (84, 10), (84, 27)] h h4 := (F2.mo (by simp) (by simp)).tr (F4.mo (by simp) (by simp))
  refine s12_clearBank P4.1 (by rw [e4, gI_pF_s P2.1.o (by decide)]) b1 (fun h6 W6 F6 A6 => ⟨rfl, ?_⟩)
  have P6 : mPs h6 n bs 0 := P4.fr F6 (by simp) (by decide) (by simp) (by decide)
  have g6 : mGd h6 := g4.fr F6 (by simp)
  refine l12_lines d rl0 0 h6 rlO_0 A6 P6 g6 Z (fun h7 q eq O7 W7 P7 g7 A7 => ?_) (fun h7 e ee W7 L7 => ?_)
  · have FA : fr XRo YRo h h7 := (F24.mo (by simp) (by simp)).tr ((F6.mo (by simp) (by simp)).tr (W7.1.mo (by simp) (by simp)))
    have g27 : gI h7 84 27 = nI (1 - b) := A7.1.1
    refine bX12_roll_39 _ _ _ ⟨P7.1.o, s12_isGood P7.1 (fun _ => ⟨_, rfl, br_f (by decide +kernel) ⟨P7.1.o, fun h8 e8 h9 e9 => ?_⟩⟩) (fun g => absurd g7 g)⟩
    rw [g27] at e8
    have F8 : fr [] [(84, 26), (84, 54)] h7 h8 := by rw [e8]; exact fr_pF (by simp) P7.1.o rfl rfl
    have F9 : fr [] [(84, 26), (84, 54)] h8 h9 := by rw [e9]; exact fr_pF (by simp) (F8.o P7.1.o) rfl rfl
    have F89 := F8.tr F9
    have M9 : mLay h9 := P7.1.fr F89 (by decide)
    have g9 : gI h9 84 26 = nI (1 - b) := by rw [e9, gI_pF_n (Or.inr (by decide)), e8, gI_pF_s P7.1.o (by decide)]
    have g9' : gI h9 84 54 = 0 := by rw [e9, gI_pF_s (F8.o P7.1.o) (by decide)]
    -- the hands' places of the boxes
    have bx : ∀ (d j : Nat) (h0 : zH), j + d = 3 → fr [120] [] h9 h0 → (∀ k, k < j → aI h0 120 k = -1) → (∀ h1, fr [120] [] h9 h1 → (∀ k, k < 3 → aI h1 120 k = -1) → zX mX12_roll 83 [.ref 84, .int (0 : Int32)] [] h1 Q) → zX mX12_roll 63 [.ref 84, .int (nI j)] [] h0 Q := by
      intro d
      induction d with
      | zero =>
        intro j h0 hj F Z K
        have : j = 3 := by omega
        subst this
        exact bX12_roll_63 _ _ _ _ (br_t (by decide +kernel) (K h0 F Z))
      | succ d ih =>
        intro j h0 hj F Z K
        have M0 : mLay h0 := M9.fr F (by decide)
        have cj : (nI j).toNatClampNeg = j := nI_clamp (by omega)
        refine bX12_roll_63 _ _ _ _ (br_f (by rw [nI_lit 3]; exact nI_ge (by omega) (by decide)) ⟨M0.o, _, M0.r56, M0.k56, by rw [M0.n56]; exact vp_in_nI (by omega) (by decide), fun h6 e6 => ?_⟩)
        rw [cj] at e6
        rw [nI_1]
        refine ih (j + 1) h6 (by omega) (F.tr (by rw [e6]; exact fr_pI (by simp))) (fun k hk => ?_) K
        by_cases z : k = j
        · rw [z, e6]; exact aI_pI_s ⟨_, M0.k56⟩
        · rw [e6, aI_pI_n (Or.inr z)]; exact Z k (by omega)
    have hs : ∀ (d j : Nat) (h1 h0 : zH), mLay h1 → j + d = 8 → fr [111] [] h1 h0 → (∀ k, k < j → aI h0 111 k = 0) → (∀ h2, fr [111] [] h1 h2 → (∀ k, k < 8 → aI h2 111 k = 0) → zC mX12_layRows [.ref 84] h2 (fun r0 h3 => r0 = none ∧ (oK h3 84 12 ∧ (∃ a5 : Nat, gR h3 84 13 = some a5 ∧ (iK h3 a5 0 ∧ (vp_in (gI h3 84 26) (aN h3 a5) ∧ (Q (some (.int (aI h3 a5 (gI h3 84 26).toNatClampNeg))) h3))))))) → zX mX12_roll 83 [.ref 84, .int (nI j)] [] h0 Q := by
      intro d
      induction d with
      | zero =>
        intro j h1 h0 M1 hj F Z K
        have : j = 8 := by omega
        subst this
        exact bX12_roll_83 _ _ _ _ (br_t (by decide +kernel) ⟨(M1.fr F (by decide)).o, K h0 F Z⟩)
      | succ d ih =>
        intro j h1 h0 M1 hj F Z K
        have M0 : mLay h0 := M1.fr F (by decide)
        have cj : (nI j).toNatClampNeg = j := nI_clamp (by omega)
        refine bX12_roll_83 _ _ _ _ (br_f (by rw [nI_lit 8]; exact nI_ge (by omega) (by decide)) ⟨M0.o, _, M0.r45, M0.k45, by rw [M0.n45]; exact vp_in_nI (by omega) (by decide), fun h6 e6 => ?_⟩)
        rw [cj] at e6
        rw [nI_1]
        refine ih (j + 1) h1 h6 M1 (by omega) (F.tr (by rw [e6]; exact fr_pI (by simp))) (fun k hk => ?_) K
        by_cases z : k = j
        · rw [z, e6]; exact aI_pI_s ⟨_, M0.k45⟩
        · rw [e6, aI_pI_n (Or.inr z)]; exact Z k (by omega)
    refine bx 3 0 h9 rfl fr.rf (fun k hk => absurd hk (Nat.not_lt_zero k)) (fun h10 F10 b10 => ?_)
    have M10 : mLay h10 := M9.fr F10 (by decide)
    refine hs 8 0 h10 h10 M10 rfl fr.rf (fun k hk => absurd hk (Nat.not_lt_zero k)) (fun h11 F11 b11 => ?_)
    have M11 : mLay h11 := M10.fr F11 (by decide)
    have FB : fr [111, 120] [(84, 26), (84, 54)] h7 h11 := (F89.mo (by simp) (by simp)).tr ((F10.mo (by simp) (by simp)).tr (F11.mo (by simp) (by simp)))
    have A11 : mRl h11 (1 - b) q.1 := A7.fr FB (by decide) (by simp)
    have g11 : gI h11 84 26 = nI (1 - b) := by rw [F11.gi (by simp), F10.gi (by simp)]; exact g9
    have T11 := A11.mT O7 M11 g11
    refine s12_layRows T11 (by rw [FB.gi (by simp), FA.gi (by simp)]; exact g40) (A11.mB O7) (fun h12 F12 S12 => ⟨rfl, (F12.o M11.o), _, (M11.fr F12 (by decide)).r13, (M11.fr F12 (by decide)).k13, ?_⟩)
    have A12 : mRl h12 (1 - b) q.1 := A11.fr F12 (by decide) (by decide)
    have c1b : (nI (1 - b)).toNatClampNeg = 1 - b := nI_clamp (by omega)
    have g12 : gI h12 84 26 = nI (1 - b) := by rw [F12.gi (by decide)]; exact g11
    rw [g12, c1b, (M11.fr F12 (by decide)).n13, A12.1.2.2.2.2.1]
    refine ⟨vp_in_nI b1 (by decide), H1 q h12 eq O7 (FA.tr ((FB.mo (by simp) (by simp)).tr (F12.mo (by decide) (by decide)))) A12 g12 ?_ (fun j hj => ?_) (fun v hv => ?_) S12 ?_ ?_ ?_⟩
    · rw [F12.gi (by decide), F11.gi (by simp), F10.gi (by simp)]; exact g9'
    · rw [F12.i (by decide), F11.i (by simp)]; exact b10 j hj
    · rw [F12.i (by decide)]; exact b11 v hv
    · rw [F12.gi (by decide), FB.gi (by simp), W7.1.gi (by simp), F6.gi (by simp), F4.gi (by simp)]; exact g22
    · rw [F12.gi (by decide), FB.gi (by simp)]; exact g7.1
    · rw [F12.gi (by decide), FB.gi (by simp)]; exact g7.2
  · have FA : fr XRo YRo h h7 := (F24.mo (by simp) (by simp)).tr ((F6.mo (by simp) (by simp)).tr (W7.1.mo (by simp) (by simp)))
    refine bX12_roll_39 _ _ _ ⟨L7.l.o, s12_isGood L7.l (fun g => absurd g L7.ng) (fun _ => ⟨_, rfl, br_t rfl (H2 e h7 ee FA ((bkE.of F24 (by decide)).tr (bkE.tr W6.2 W7.2)) L7.2 ?_ ?_ (fun k hk => ?_) ?_ ?_)⟩)⟩
    · rw [W7.1.gi (by simp), F6.gi (by simp), F4.gi (by simp)]; exact g22
    · rw [W7.1.gi (by simp), F6.gi (by simp), F24.gi (by simp)]; exact g26
    · rcases hk with rfl | rfl | rfl | rfl | rfl | rfl <;> rw [W7.1.i (by simp), F6.i (by simp), F24.i (by simp)]
    · rw [W7.1.gi (by simp), F6.gi (by simp), F24.gi (by simp)]
    · rw [W7.1.gi (by simp), F6.gi (by simp), F24.gi (by simp)]
end

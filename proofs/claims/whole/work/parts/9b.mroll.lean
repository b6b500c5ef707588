/-! ===== the reference reads a ballot's line, a line, all lines ===== -/
section
variable {h h' h0 : zH} {Q : Option Value → zH → Prop} {n i rb : Nat} {bs : Nat → Nat} {r : zRl} {e : Nat × Nat} {s : zFt ⊕ Nat}
theorem tkN_b1 {t : zTk} {k : Nat → Nat} {m v : Nat} {bar : Nat → Bool} (h : tkN t k m (fun _ => false) = .inr v) (hb : bar v = false) : tkN t k m bar = .inr v := by
  unfold tkN at h ⊢
  split at h
  · rename_i q
    rw [if_pos q]
    cases z : fx k t.2.2.1 m with
    | none => rw [z] at h; cases h
    | some u => rw [z] at h; simp only [] at h ⊢; rw [if_neg (by decide)] at h; cases h; rw [if_neg (by rw [hb]; decide)]
  · cases h
theorem tkN_b2 {t : zTk} {k : Nat → Nat} {m : Nat} {e : zFt} {bar : Nat → Bool} (h : tkN t k m (fun _ => false) = .inl e) : tkN t k m bar = .inl e := by
  unfold tkN at h ⊢
  split at h
  · rename_i q
    rw [if_pos q]
    cases z : fx k t.2.2.1 m with
    | none => rw [z] at h; exact h
    | some u => rw [z] at h; simp only [] at h; rw [if_neg (by decide)] at h; cases h
  · rename_i q
    rw [if_neg q]; exact h
/-- a ballot's line -/
theorem s12_readBallot (O : rlO r) (A : mRl h rb r) (P : mPs h n bs (i + 1)) (hg : mGd h) (k5 : (tk n bs i).1 = 5) (Z : lnS n bs r i) (H : ∀ h' s', mFr rb h h' → mEi h' n bs s' → (∀ e, s' = .inl e → lnB n bs r i = .inl e) → (∀ i', s' = .inr i' → ∃ r', lnB n bs r i = .inr (r', i') ∧ mRl h' rb r') → Q none h') : zC mX12_readBallot [.ref 84] h Q := by
  have M := P.1
  have K := A.1
  have v8 := O.1.2.2.1
  have rb2 := K.2.1
  have crb : (nI rb).toNatClampNeg = rb := nI_clamp (by omega)
  have eL : lnB n bs r i = match tkN (tk n bs (i + 1)) r.1.1.2.2.2 r.1.1.2.2.1 r.2.1 with
    | .inl e => .inl e
    | .inr v => match prs n bs r.1.1 v (80 - rlU r) 1602 (0, [], [], (0, c00), (i + 2, 0)) with
      | .inl e => .inl e
      | .inr s => .inr (rB r v (s.2.2.2.1.1, (s.2.2.2.1.2, s.2.2.2.2.2)), s.2.2.2.2.1) := by
    unfold lnB
    rw [if_neg (by omega), if_neg (by omega), if_neg (by omega), if_pos k5]
    rfl
  -- a fault's end
  have bad : ∀ (h1 : zH) (e : zFt), mLo h1 n bs e → mFr rb h h1 → lnB n bs r i = .inl e → Q none h1 := fun h1 e L1 W1 el => H h1 (.inl e) W1 L1 (fun e' z => by cases z; exact el) (fun j z => by cases z)
  have b42 : (∀ v, hx (tk n bs (i + 1)) r.1.1.2.2.2 r.1.1.2.2.1 = some v → r.2.1 v = false) → zX mX12_readBallot 42 [.ref 84, .int (oI (hx (tk n bs (i + 1)) r.1.1.2.2.2 r.1.1.2.2.1))] [] h Q := fun nb => by
    refine bX12_readBallot_42 _ _ _ _ ⟨M.o, s12_told P hg (by omega) (fun h2 v ev F2 P2 g2 => ⟨_, rfl, P2.1.o, s12_isGood P2.1 (fun _ => ⟨_, rfl, br_f (by decide +kernel) ⟨P2.1.o, _, P2.1.r20, P2.1.k20, ?_⟩⟩) (fun g => absurd g2 g)⟩) (fun h2 e v ev F2 L2 hv => ⟨_, rfl, L2.l.o, s12_isGood L2.l (fun g => absurd g L2.ng) (fun _ => ⟨_, rfl, br_t rfl (bad h2 e L2 (mFr.of F2 (by decide) (by decide) (by decide)) ?_)⟩)⟩)⟩
    · have w := tkN_lt ev
      have tv : r.2.1 v = false := by
        refine nb v ?_
        unfold tkN at ev
        unfold hx
        rw [if_pos w.2.2] at ev ⊢
        cases z : fx r.1.1.2.2.2 (tk n bs (i + 1)).2.2.1 r.1.1.2.2.1 with
        | none => rw [z] at ev; cases ev
        | some u => rw [z] at ev; simp only [] at ev; rw [if_neg (by decide)] at ev; cases ev; rfl
      have ev' := tkN_b1 (bar := r.2.1) ev tv
      have fz := Z k5 v ev'
      rw [ev'] at eL
      simp only [] at eL
      have A2 := A.fr F2 (by decide) (by simp)
      have W2 : mFr rb h h2 := mFr.of F2 (by decide) (by decide) (by decide)
      have cix : (nI (8 * rb + v)).toNatClampNeg = 8 * rb + v := nI_clamp (by omega)
      rw [A2.1.1, ix8, cix, P2.1.n20]
      refine ⟨vp_in_nI (by omega) (by decide), fun h12 e12 => ?_⟩
      have G12 : fr [96] [] h2 h12 := by rw [e12]; exact fr_pI (by simp)
      have M12 : mLay h12 := P2.1.fr G12 (by decide)
      refine ⟨_, M12.r14, M12.k14, ?_⟩
      rw [G12.gi (by simp), A2.1.1, crb, M12.n14, G12.i (by simp), A2.2.2.2.1, nI_1]
      refine ⟨vp_in_nI rb2 (by decide), vp_in_nI rb2 (by decide), fun h19 e19 => ?_⟩
      have G19 : fr [90] [] h12 h19 := by rw [e19]; exact fr_pI (by simp)
      have M19 : mLay h19 := M12.fr G19 (by decide)
      have W19 : mFr rb h h19 := W2.tr (by rw [e19, e12]; exact mFr.tr (mFr_pI (x := v) (Or.inr ⟨Or.inr (Or.inr rfl), rfl, by omega⟩)) (mFr_pI (x := 0) (Or.inl ⟨Or.inr (Or.inr (Or.inr rfl)), rfl⟩)))
      have a96 : ∀ x, x < 8 → aI h19 96 (8 * rb + x) = (if va_up r.2.1 v true x = true then 1 else 0) := fun x hx => by
        rw [G19.i (by simp), e12]
        by_cases z : x = v
        · rw [z, up_s, if_pos rfl, aI_pI_s ⟨_, P2.1.k20⟩]; decide +kernel
        · rw [up_n z, aI_pI_n (Or.inr (by omega))]; exact A2.2.2.1 x hx
      have a90 : aI h19 90 rb = nI (rlT r + 1) := by rw [e19]; exact aI_pI_s ⟨_, M12.k14⟩
      have GG : fr [96, 90] [] h2 h19 := (G12.mo (by simp) (by simp)).tr (G19.mo (by simp) (by simp))
      have U19 : ∀ w, w < 8 → aI h19 98 (8 * rb + w) = nI ((r.2.2 w).2.2) := fun w hw => by rw [GG.i (by simp)]; exact (A2.2.2.2.2 w hw).2
      have g27 : gI h19 84 27 = nI rb := by rw [GG.gi (by simp)]; exact A2.1.1
      rw [g27]
      have ub := s12_unitsBut (o := 99) (x := (-1 : Int32)) (cu := fun w => (r.2.2 w).2.2) (Q := fun r0 h23 => ∃ x24 : Int32, r0 = some (.int x24) ∧ (oK h23 84 12 ∧ (∀ h26 : zH, h26 = (pF h23 84 34 (.int ((80 : Int32) - x24))) → (zC mX12_readE [.ref 84, .int (((8 : Int32) * (gI h26 84 27)) + nI v), .int (nI v)] h26 (fun r0 h28 => r0 = none ∧ (Q none h28)))))) M19 (by omega) U19 (fun w hw => ⟨fun z => absurd z (by have := nI_pos (n := w) (by omega); intro y; rw [y] at this; exact this (by decide +kernel)), fun z => by omega⟩)
      refine ub ⟨_, rfl, M19.o, fun h26 e26 => ?_⟩
      have eu : sm (fun w => if w = 99 then 0 else (r.2.2 w).2.2) 0 8 = rlU r := sm_congr 8 0 (fun x _ hx => by rw [if_neg (by omega)])
      rw [eu, nI_lit 80, nI_sub O.2.2.2.2.2] at e26
      have G26 : fr [] [(84, 34)] h19 h26 := by rw [e26]; exact fr_pF (by simp) M19.o rfl rfl
      have W26 : mFr rb h h26 := W19.tr (mFr.of G26 (by decide) (by decide) (by decide))
      have GH : fr [96, 90] [(84, 34)] h2 h26 := (GG.mo (by simp) (by simp)).tr (G26.mo (by simp) (by simp))
      have P26 : mPs h26 n bs (i + 2) := P2.fr GH (by simp) (by decide) (by simp) (by decide)
      have g26 : mGd h26 := g2.fr GH (by simp)
      have K26 : mKy h26 rb r.1.1 := A2.1.fr GH (by decide) (by simp)
      rw [K26.1, ix8]
      refine s12_readE O.1 (by omega) (by omega) (by omega) P26 g26 K26 (by rw [e26, gI_pF_s M19.o (by decide)]) (d := 1602) fz (fun h28 s' es p4 J' F28 S28 => ⟨rfl, ?_⟩) (fun h28 e es F28 L28 => ⟨rfl, bad h28 e L28 (W26.tr (mFr.ofG F28 (by omega) (by decide) (by decide))) (by rw [eL, es])⟩)
      rw [es] at eL
      obtain ⟨R28, -, -⟩ := S28
      obtain ⟨P28, g28, w1, w2, w3, w4, w5, w6, w7⟩ := R28
      have ok := Ivs_ok J' p4
      refine H h28 (.inr s'.2.2.2.2.1) (W26.tr (mFr.ofG F28 (by omega) (by decide) (by decide))) ⟨P28, g28⟩ (fun e z => by cases z) (fun j z => ?_)
      cases z
      refine ⟨_, eL, K26.fr F28.1 (by decide) (by simp), fun x hx => ?_, fun x hx => ?_, ?_, fun x hx => ?_⟩
      · rw [F28.1.i (by simp), F28.1.i (by simp), GH.i (by simp), GH.i (by simp)]; exact A2.2.1 x hx
      · rw [F28.1.i (by simp), G26.i (by simp)]; exact a96 x hx
      · rw [F28.1.i (by simp), G26.i (by simp), a90]
        have su := sm_up (f := fun x => if r.2.1 x = true then 1 else 0) (v := v) (x := 1) 8 0
        rw [if_pos (show 0 ≤ v ∧ v < 0 + 8 by omega), if_pos (show 0 ≤ v ∧ v < 0 + 8 by omega)] at su
        have f0 : (if r.2.1 v = true then 1 else 0) = 0 := by rw [tv]; rfl
        rw [f0] at su
        have e2 : rlT (rB r v (s'.2.2.2.1.1, (s'.2.2.2.1.2, s'.2.2.2.2.2))) = sm (va_up (fun x => if r.2.1 x = true then 1 else 0) v 1) 0 8 := by
          refine sm_congr 8 0 (fun x _ _ => ?_)
          show (if va_up r.2.1 v true x = true then 1 else 0) = _
          by_cases y : x = v
          · rw [y, up_s, up_s]; rfl
          · rw [up_n y, up_n y]
        rw [e2]
        have e3 : sm (fun x => if r.2.1 x = true then 1 else 0) 0 8 = rlT r := rfl
        congr 1
        omega
      · show mBl h28 (8 * rb + x) (va_up r.2.2 v _ x).1 (va_up r.2.2 v _ x).2.1 (va_up r.2.2 v _ x).2.2
        by_cases y : x = v
        · rw [y, up_s]
          exact ⟨⟨w6, ok.1, w7⟩, w4⟩
        · rw [up_n y]
          refine ((A2.2.2.2.2 x hx).fr GH (by decide)).sl ⟨(F28.2.1 _ (by omega)).1, (F28.2.1 _ (by omega)).2, fun k hk => F28.2.2 _ (by omega)⟩
    · rw [eL, tkN_b2 ev]
  refine nX12_readBallot _ _ _ (bX12_readBallot_0 _ _ _ ⟨M.o, s12_voterHere P K O.1 ⟨_, rfl, M.o, s12_isGood M (fun _ => ⟨_, rfl, br_f (by decide +kernel) ?_⟩) (fun g => absurd hg g)⟩⟩)
  cases z : hx (tk n bs (i + 1)) r.1.1.2.2.2 r.1.1.2.2.1 with
  | none =>
    have b := b42 (fun v w => by rw [z] at w; cases w)
    rw [z] at b
    exact br_t (by decide +kernel) b
  | some v =>
    have vV : v < r.1.1.2.2.1 ∧ (tk n bs (i + 1)).1 = 20 ∧ fx r.1.1.2.2.2 (tk n bs (i + 1)).2.2.1 r.1.1.2.2.1 = some v := by
      unfold hx at z
      split at z
      · rename_i q; exact ⟨(fx_some z).1, q, z⟩
      · cases z
    have cix : (nI (8 * rb + v)).toNatClampNeg = 8 * rb + v := nI_clamp (by omega)
    show ((nI v) < 0 → _) ∧ (¬ ((nI v) < 0) → _)
    refine br_f (nI_pos (by omega)) ⟨M.o, _, M.r20, M.k20, ?_⟩
    show vp_in (((8 : Int32) * (gI h 84 27)) + nI v) _ ∧ _
    rw [K.1]
    have ee : ((8 : Int32) * nI rb) + oI (some v) = nI (8 * rb + v) := ix8 rb v
    rw [ix8, ee, cix, M.n20, A.2.2.1 v (by omega)]
    cases tv : r.2.1 v with
    | false =>
      have b := b42 (fun u w => by rw [z] at w; cases w; exact tv)
      rw [z] at b
      exact ⟨vp_in_nI (by omega) (by decide), br_t rfl b⟩
    | true =>
      refine ⟨vp_in_nI (by omega) (by decide), br_f (by decide +kernel) ?_⟩
      rw [P.2.2.1]
      refine s12_fails (k := 3) M (by decide) hg (fun h1 F1 E1 => ⟨rfl, ?_⟩)
      have L1 := lo_of P F1 E1
      refine bX12_readBallot_42 _ _ _ _ ⟨L1.l.o, s12_told0 L1.l L1.2 ⟨_, rfl, L1.l.o, s12_isGood L1.l (fun g => absurd g L1.ng) (fun _ => ⟨_, rfl, br_t rfl (bad h1 _ L1 (mFr.of F1 (by decide) (by decide) (by decide)) ?_)⟩)⟩⟩
      rw [eL]
      have : tkN (tk n bs (i + 1)) r.1.1.2.2.2 r.1.1.2.2.1 r.2.1 = .inl (3, (tk n bs (i + 1)).2.1) := by
        unfold tkN
        rw [if_pos vV.2.1, vV.2.2]
        simp only []
        rw [if_pos tv]
      rw [this]
theorem ix3 (b v : Nat) : (3 : Int32) * nI b + nI v = nI (3 * b + v) := by rw [nI_lit 3, nI_mul, nI_add]
theorem ix4 (b v : Nat) : (4 : Int32) * nI b + nI v = nI (4 * b + v) := by rw [nI_lit 4, nI_mul, nI_add]
theorem wcmp {k j : Nat} {w : Int64} (hk : k < 20) (hj : j < 20) (hw : w = lN (wdM j)) : lg_cmp (lN (wdM k)) w = 0 ↔ k = j := by
  rw [hw, lg_cmp_eq, lN_eq6 (wdM_lt _ hk) (wdM_lt _ hj)]
  refine ⟨fun e => ?_, fun e => by rw [e]⟩
  have : ∀ a, a < 20 → ∀ b, b < 20 → [1851878757, 126943972648308, 508676040050, 24948, 131277443786868, 108170570395508, 26982, 1952998766, 1701606245, 422725119595, 24947, 1836020596, 26990, 112585980867444, 28530, 6385252, 7237492, 508676040051, 108217630616435, 26995].getD a 0 = [1851878757, 126943972648308, 508676040050, 24948, 131277443786868, 108170570395508, 26982, 1952998766, 1701606245, 422725119595, 24947, 1836020596, 26990, 112585980867444, 28530, 6385252, 7237492, 508676040051, 108217630616435, 26995].getD b 0 → a = b := by decide +kernel
  rw [wdM_l, wdM_l] at e
  exact this k hk j hj e
/-- whether a line can't begin so -/
def fulL (r : zRl) (κ : Nat) : Prop := (κ = 0 ∧ r.1.1.1.1 = 3) ∨ (κ = 1 ∧ r.1.1.2.1.1 = 4) ∨ (κ = 2 ∧ r.1.1.2.2.1 = 8) ∨ (κ ≠ 0 ∧ κ ≠ 1 ∧ κ ≠ 2 ∧ κ ≠ 5)
theorem e12_isFull (O : rlO r) (A : mRl h rb r) (P : mPs h n bs i) (H1 : fulL r (tk n bs i).1 → Q (some (.int 1)) h) (H0 : ¬ fulL r (tk n bs i).1 → Q (some (.int 0)) h) : zC mX12_isFull [.ref 84] h Q := by
  have M := P.1
  have K := A.1
  have crb : (nI rb).toNatClampNeg = rb := nI_clamp (by have := K.2.1; omega)
  have v8 := O.1.2.2.1
  have s4 := O.1.2.1.1
  have n3 := O.1.1.1
  have rb2 := K.2.1
  unfold fulL at H1 H0
  refine nX12_isFull _ _ _ (bX12_isFull_0 _ _ _ ⟨M.o, s12_isWord (k := 0) P (by decide) wI0 (fun q => ⟨_, rfl, br_f (by decide +kernel) ⟨M.o, _, M.r11, M.k11, ?_⟩⟩) (fun n0 => ⟨_, rfl, br_t rfl ⟨M.o, s12_isWord (k := 1) P (by decide) wI1 (fun q => ⟨_, rfl, br_f (by decide +kernel) ⟨M.o, _, M.r12, M.k12, ?_⟩⟩) (fun n1 => ⟨_, rfl, br_t rfl ⟨M.o, s12_isWord (k := 2) P (by decide) wI2 (fun q => ⟨_, rfl, br_f (by decide +kernel) ⟨M.o, _, M.r13, M.k13, ?_⟩⟩) (fun n2 => ⟨_, rfl, br_t rfl ⟨M.o, s12_isWord (k := 5) P (by decide) wI5 (fun q => ⟨_, rfl, br_f (by decide +kernel) (H0 (by omega))⟩) (fun n5 => ⟨_, rfl, br_t rfl (H1 (by omega))⟩)⟩⟩)⟩⟩)⟩⟩)⟩)
  · rw [K.1, crb, K.2.2.1.1, M.n11, nI_lit 3, nI_eq (by omega) (by decide)]
    exact ⟨vp_in_nI rb2 (by decide), fun z => H1 (by omega), fun z => H0 (by omega)⟩
  · rw [K.1, crb, K.2.2.2.1.1, M.n12, nI_lit 4, nI_eq (by omega) (by decide)]
    exact ⟨vp_in_nI rb2 (by decide), fun z => H1 (by omega), fun z => H0 (by omega)⟩
  · rw [K.1, crb, K.2.2.2.2.1, M.n13, nI_lit 8, nI_eq (by omega) (by decide)]
    exact ⟨vp_in_nI rb2 (by decide), fun z => H1 (by omega), fun z => H0 (by omega)⟩
theorem lnB_full (hf : fulL r (tk n bs i).1) : lnB n bs r i = .inl (mp n bs i) := by
  unfold lnB
  rcases hf with ⟨q, z⟩ | ⟨q, z⟩ | ⟨q, z⟩ | ⟨n0, n1, n2, n5⟩
  · rw [if_pos q, if_pos z]
  · rw [if_neg (by omega), if_pos q, if_pos z]
  · rw [if_neg (by omega), if_neg (by omega), if_pos q, if_pos z]
  · rw [if_neg n0, if_neg n1, if_neg n2, if_neg n5]
/-- a line -/
theorem s12_readLine (O : rlO r) (A : mRl h rb r) (P : mPs h n bs i) (hg : mGd h) (Z : lnS n bs r i) (H1 : ∀ h' q, ln n bs r i = .inr q → mFr rb h h' → mPs h' n bs q.2 → mGd h' → mRl h' rb q.1 → Q none h') (H2 : ∀ h' e, ln n bs r i = .inl e → mFr rb h h' → mLo h' n bs e → Q none h') : zC mX12_readLine [.ref 84] h Q := by
  have M := P.1
  have K := A.1
  have v8 := O.1.2.2.1
  have s4 := O.1.2.1.1
  have n3 := O.1.1.1
  have rb2 := K.2.1
  have crb : (nI rb).toNatClampNeg = rb := nI_clamp (by omega)
  have b31 := (tk_k (n := n) (bs := bs) i).1
  have kk := mkk_lt (k := (tk n bs i).1) (by omega)
  -- it can't stand there
  have flt : fulL r (tk n bs i).1 → ∀ w : Int64, zX mX12_readLine 20 [.ref 84, .long w, .float 0] [] h Q := fun hf w => by
    refine bX12_readLine_20 _ _ _ _ ⟨M.o, s12_misplaced P hg (fun h1 F1 E1 => ⟨rfl, ?_⟩)⟩
    have L1 := lo_of P F1 E1
    exact bX12_readLine_24 _ _ _ _ ⟨L1.l.o, s12_isGood L1.l (fun g => absurd g L1.ng) (fun _ => ⟨_, rfl, br_t rfl (H2 h1 _ (by unfold ln; rw [lnB_full hf] <;> rfl) (mFr.of F1 (by decide) (by decide) (by decide)) L1)⟩)⟩
  refine nX12_readLine _ _ _ (bX12_readLine_0 _ _ _ ⟨M.o, ?_⟩)
  rw [nI_lit 3, P.2.2.tk b31 3 (by decide), kk.2.1]
  refine ⟨fun k20 => e12_isFull O A P (fun hf => ⟨_, rfl, br_f (by decide +kernel) (flt hf _)⟩) (fun nf => ⟨_, rfl, br_t rfl ?_⟩), fun k20 => flt (Or.inr (Or.inr (Or.inr (by omega)))) _⟩
  have ew : gL h 84 10 = lN (wdM (tk n bs i).1) := by rw [P.2.2.2.2.2.1 (by omega), ← wdM_of ((tk_o (n := n) (bs := bs) i).1 k20)]
  rw [ew]
  unfold fulL at nf
  refine bX12_readLine_24 _ _ _ _ ⟨M.o, s12_isGood M (fun _ => ⟨_, rfl, br_f (by decide +kernel) ⟨M.o, s12_goOnT P (fun h6 F6 P6 => ⟨rfl, ?_⟩)⟩⟩) (fun g => absurd hg g)⟩
  have M6 := P6.1
  have A6 := A.fr F6 (by decide) (by simp)
  have g6 := hg.fr F6 (by simp)
  have W6 : mFr rb h h6 := mFr.of F6 (by decide) (by decide) (by decide)
  have K6 := A6.1
  rw [wcmp k20 (by decide) wI0, wcmp k20 (by decide) wI1, wcmp k20 (by decide) wI2]
  refine ⟨fun q => ⟨M6.o, _, M6.r15, _, M6.r11, M6.k11, ?_⟩, fun n0 => ⟨fun q => ⟨M6.o, _, M6.r16, _, M6.r12, M6.k12, ?_⟩, fun n1 => ⟨fun q => ⟨M6.o, s12_readVoter O A6 P6 g6 q (by omega) (fun h' s' F' S' x1 x2 => ⟨rfl, e12_tail S' (W6.tr F') x1 x2 H1 H2⟩)⟩, fun n2 => ⟨M6.o, s12_readBallot O A6 P6 g6 (by omega) Z (fun h' s' F' S' x1 x2 => ⟨rfl, e12_tail S' (W6.tr F') x1 x2 H1 H2⟩)⟩⟩⟩⟩
  · have cix : (nI (3 * rb + r.1.1.1.1)).toNatClampNeg = 3 * rb + r.1.1.1.1 := nI_clamp (by omega)
    rw [K6.1, crb, K6.2.2.1.1, M6.n11, ix3]
    have eL : lnB n bs r i = match tkF (tk n bs (i + 1)) r.1.1.1.2 r.1.1.1.1 with
      | .inl e => .inl e
      | .inr x => .inr (rN r x, i + 2) := by
      unfold lnB
      rw [if_pos q, if_neg (by omega)]
      rfl
    have go : ∀ f0 : Int32, (f0 = 0 ↔ hx (tk n bs (i + 1)) r.1.1.1.2 r.1.1.1.1 = none) → zX mX12_readLine 77 [.ref 84, .float 0, .float 0] [.int f0, .ref 84, .int (nI (3 * rb + r.1.1.1.1)), .ref 91] h6 Q := fun f0 hf0 => by
      refine bX12_readLine_77 _ _ _ _ _ _ _ ⟨M6.o, z12_fresh (s := .inr (i + 1)) ⟨P6, g6⟩ (fun j z => by cases z; exact hf0) (fun h2 s1 v1 F2 S2 t1 t2 => ⟨_, rfl, F2.lk M6.k15, by rw [F2.n, M6.n15]; exact vp_in_nI (by omega) (by decide), fun h8 e8 => ?_⟩)⟩
      rw [cix] at e8
      have t2 := t2 (i + 1) rfl
      have G8 : fr [91] [] h2 h8 := by rw [e8]; exact fr_pL (by simp)
      have S8 := S2.fr G8 (by simp) (by decide) (by decide)
      have A8 : mRl h8 rb r := by rw [e8]; exact (A6.fr F2 (by decide) (by simp)).kl (Or.inl ⟨rfl, rfl⟩)
      have x8 : aL h8 91 (3 * rb + r.1.1.1.1) = v1 := by rw [e8]; exact aL_pL_s (F2.lk M6.k15)
      have W8 : mFr rb h h8 := W6.tr ((mFr.of F2 (by decide) (by decide) (by decide)).tr (by rw [e8]; exact mFr_pL (Or.inl ⟨rfl, rfl, by omega⟩)))
      have M8 := S8.l
      refine ⟨M8.o, _, M8.r11, M8.k11, ?_⟩
      rw [A8.1.1, crb, A8.1.2.2.1.1, M8.n11, nI_1]
      refine ⟨vp_in_nI rb2 (by decide), vp_in_nI rb2 (by decide), fun h13 e13 => ?_⟩
      have G13 : fr [87] [] h8 h13 := by rw [e13]; exact fr_pI (by simp)
      refine e12_tail (i := i) (r := r) (S8.fr G13 (by simp) (by decide) (by decide)) (W8.tr (by rw [e13]; exact mFr_pI (x := 0) (Or.inl ⟨Or.inl rfl, rfl⟩))) (fun e z => ?_) (fun j z => ?_) H1 H2
      · rw [eL]
        cases y : tkF (tk n bs (i + 1)) r.1.1.1.2 r.1.1.1.1 with
        | inl e2 => have := t2.1 e2 y; rw [z] at this; cases this; rfl
        | inr x => have := (t2.2 x y).1; rw [z] at this; cases this
      · cases y : tkF (tk n bs (i + 1)) r.1.1.1.2 r.1.1.1.1 with
        | inl e2 => have := t2.1 e2 y; rw [z] at this; cases this
        | inr x =>
          have w := t2.2 x y
          have := w.1; rw [z] at this; cases this
          refine ⟨rN r x, by rw [eL, y], ?_⟩
          rw [e13]
          exact A8.bN M8 (by rw [x8, w.2]) rfl
    have fl := hx_flag (n := n) (bs := bs) (k := r.1.1.1.2) (m := r.1.1.1.1) (by omega) (j := i + 1)
    exact ⟨vp_in_nI rb2 (by decide), s12_nameHere P6 K6 O.1 ⟨_, rfl, fun q => go 0 ⟨fun _ => fl.mp q, fun _ => rfl⟩, fun q => go 1 ⟨fun z => absurd z (by decide +kernel), fun z => absurd (fl.mpr z) q⟩⟩⟩
  · have cix : (nI (4 * rb + r.1.1.2.1.1)).toNatClampNeg = 4 * rb + r.1.1.2.1.1 := nI_clamp (by omega)
    rw [K6.1, crb, K6.2.2.2.1.1, M6.n12, ix4]
    have eL : lnB n bs r i = match tkF (tk n bs (i + 1)) r.1.1.2.1.2 r.1.1.2.1.1 with
      | .inl e => .inl e
      | .inr x => .inr (rS r x, i + 2) := by
      unfold lnB
      rw [if_neg n0, if_pos q, if_neg (by omega)]
      rfl
    have go : ∀ f0 : Int32, (f0 = 0 ↔ hx (tk n bs (i + 1)) r.1.1.2.1.2 r.1.1.2.1.1 = none) → zX mX12_readLine 138 [.ref 84, .float 0, .float 0] [.int f0, .ref 84, .int (nI (4 * rb + r.1.1.2.1.1)), .ref 92] h6 Q := fun f0 hf0 => by
      refine bX12_readLine_138 _ _ _ _ _ _ _ ⟨M6.o, z12_fresh (s := .inr (i + 1)) ⟨P6, g6⟩ (fun j z => by cases z; exact hf0) (fun h2 s1 v1 F2 S2 t1 t2 => ⟨_, rfl, F2.lk M6.k16, by rw [F2.n, M6.n16]; exact vp_in_nI (by omega) (by decide), fun h8 e8 => ?_⟩)⟩
      rw [cix] at e8
      have t2 := t2 (i + 1) rfl
      have G8 : fr [92] [] h2 h8 := by rw [e8]; exact fr_pL (by simp)
      have S8 := S2.fr G8 (by simp) (by decide) (by decide)
      have A8 : mRl h8 rb r := by rw [e8]; exact (A6.fr F2 (by decide) (by simp)).kl (Or.inr (Or.inl ⟨rfl, rfl⟩))
      have x8 : aL h8 92 (4 * rb + r.1.1.2.1.1) = v1 := by rw [e8]; exact aL_pL_s (F2.lk M6.k16)
      have W8 : mFr rb h h8 := W6.tr ((mFr.of F2 (by decide) (by decide) (by decide)).tr (by rw [e8]; exact mFr_pL (Or.inr (Or.inl ⟨rfl, rfl, by omega⟩))))
      have M8 := S8.l
      refine ⟨M8.o, _, M8.r12, M8.k12, ?_⟩
      rw [A8.1.1, crb, A8.1.2.2.2.1.1, M8.n12, nI_1]
      refine ⟨vp_in_nI rb2 (by decide), vp_in_nI rb2 (by decide), fun h13 e13 => ?_⟩
      have G13 : fr [88] [] h8 h13 := by rw [e13]; exact fr_pI (by simp)
      refine e12_tail (i := i) (r := r) (S8.fr G13 (by simp) (by decide) (by decide)) (W8.tr (by rw [e13]; exact mFr_pI (x := 0) (Or.inl ⟨Or.inr (Or.inl rfl), rfl⟩))) (fun e z => ?_) (fun j z => ?_) H1 H2
      · rw [eL]
        cases y : tkF (tk n bs (i + 1)) r.1.1.2.1.2 r.1.1.2.1.1 with
        | inl e2 => have := t2.1 e2 y; rw [z] at this; cases this; rfl
        | inr x => have := (t2.2 x y).1; rw [z] at this; cases this
      · cases y : tkF (tk n bs (i + 1)) r.1.1.2.1.2 r.1.1.2.1.1 with
        | inl e2 => have := t2.1 e2 y; rw [z] at this; cases this
        | inr x =>
          have w := t2.2 x y
          have := w.1; rw [z] at this; cases this
          refine ⟨rS r x, by rw [eL, y], ?_⟩
          rw [e13]
          exact A8.bS M8 (by rw [x8, w.2]) rfl
    have fl := hx_flag (n := n) (bs := bs) (k := r.1.1.2.1.2) (m := r.1.1.2.1.1) (by omega) (j := i + 1)
    exact ⟨vp_in_nI rb2 (by decide), s12_streetHere P6 K6 O.1 ⟨_, rfl, fun q => go 0 ⟨fun _ => fl.mp q, fun _ => rfl⟩, fun q => go 1 ⟨fun z => absurd z (by decide +kernel), fun z => absurd (fl.mpr z) q⟩⟩⟩
/-- all lines -/
theorem l12_lines : ∀ (d : Nat) (r : zRl) (i : Nat) (h : zH), rlO r → mRl h rb r → mPs h n bs i → mGd h → lnsS n bs d r i →
    (∀ h' q, lns n bs d r i = .inr q → rlO q.1 → mFr rb h h' → mPs h' n bs q.2 → mGd h' → mRl h' rb q.1 → zX mX12_roll 39 [.ref 84, .float 0] [] h' Q) → (∀ h' e, lns n bs d r i = .inl e → mFr rb h h' → mLo h' n bs e → zX mX12_roll 39 [.ref 84, .float 0] [] h' Q) → zX mX12_roll 18 [.ref 84, .float 0] [] h Q := by
  intro d
  induction d with
  | zero =>
    intro r i h O A P hg Z H1 H2
    have b31 := (tk_k (n := n) (bs := bs) i).1
    have kk := mkk_lt (k := (tk n bs i).1) (by omega)
    have z30 : (tk n bs i).1 = 30 := Z
    refine bX12_roll_18 _ _ _ ⟨P.1.o, s12_isGood P.1 (fun _ => ⟨_, rfl, br_f (by decide +kernel) ⟨P.1.o, br_t ?_ (H1 h _ rfl O mFr.rf P hg A)⟩⟩) (fun g => absurd hg g)⟩
    exact (P.2.2.tk b31 0 (by decide)).mpr (kk.2.2.2.2.2.1.mpr z30)
  | succ d ih =>
    intro r i h O A P hg Z H1 H2
    have b31 := (tk_k (n := n) (bs := bs) i).1
    have kk := mkk_lt (k := (tk n bs i).1) (by omega)
    rw [lns] at H1 H2
    refine bX12_roll_18 _ _ _ ⟨P.1.o, s12_isGood P.1 (fun _ => ⟨_, rfl, br_f (by decide +kernel) ⟨P.1.o, fun q => ?_, fun q => ?_⟩⟩) (fun g => absurd hg g)⟩
    · have z30 : (tk n bs i).1 = 30 := kk.2.2.2.2.2.1.mp ((P.2.2.tk b31 0 (by decide)).mp q)
      rw [if_pos z30] at H1
      exact H1 h _ rfl O mFr.rf P hg A
    · have z30 : (tk n bs i).1 ≠ 30 := fun z => q ((P.2.2.tk b31 0 (by decide)).mpr (kk.2.2.2.2.2.1.mpr z))
      rw [if_neg z30] at H1 H2
      have Zi := Z z30
      refine s12_readLine O A P hg Zi.1 (fun h' p ep F' P' g' A' => ⟨rfl, ?_⟩) (fun h' e ee F' L' => ⟨rfl, bX12_roll_18 _ _ _ ⟨L'.l.o, s12_isGood L'.l (fun g => absurd g L'.ng) (fun _ => ⟨_, rfl, br_t rfl (H2 h' e (by rw [ee]) F' L')⟩)⟩⟩)
      rw [ep] at H1 H2
      exact ih p.1 p.2 h' (ln_o O Zi.1 ep) A' P' g' (Zi.2 p ep) (fun h2 p2 e2 O2 F2 => H1 h2 p2 e2 O2 (F'.tr F2)) (fun h2 e e2 F2 => H2 h2 e e2 (F'.tr F2))
end

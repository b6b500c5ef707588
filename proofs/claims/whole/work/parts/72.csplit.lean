/-! ===== the class: the tape split ===== -/
section
variable {h h' : zH} {Q : Option Value → zH → Prop} {n : Nat} {bs : Nat → Nat}
/-- the tokens kept -/
def cAr (h : zH) (n : Nat) (bs : Nat → Nat) (c : Nat) : Prop := ∀ j, j < c → aI h 5 j = nI (tk n bs j).1 ∧ aI h 6 j = nI (tk n bs j).2.1 ∧ ((tk n bs j).1 ≤ 21 → aL h 7 j = lN (tk n bs j).2.2.1)
def cTk (h : zH) (n : Nat) (bs : Nat → Nat) (c : Nat) : Prop := 0 < c ∧ c ≤ 1601 ∧ gI h 2 6 = nI c ∧ fin (tk n bs (c - 1)) ∧ (∀ j, j < c - 1 → ¬ fin (tk n bs j)) ∧ cAr h n bs c
theorem cAr.fr {X : List Nat} {Y : List (Nat × Nat)} {c : Nat} (A : cAr h n bs c) (F : fr X Y h h') (h5 : 5 ∉ X) (h6 : 6 ∉ X) (h7 : 7 ∉ X) : cAr h' n bs c := fun j hj => by rw [F.i h5, F.i h6, F.l h7]; exact A j hj
theorem cTk.fr {X : List Nat} {Y : List (Nat × Nat)} {c : Nat} (K : cTk h n bs c) (F : fr X Y h h') (h5 : 5 ∉ X) (h6 : 6 ∉ X) (h7 : 7 ∉ X) (hY : (2, 6) ∉ Y) : cTk h' n bs c := ⟨K.1, K.2.1, by rw [F.gi hY]; exact K.2.2.1, K.2.2.2.1, K.2.2.2.2.1, K.2.2.2.2.2.fr F h5 h6 h7⟩
theorem s8_keep {c st κ x : Nat} (L : cTL h) (hc : c < 1601) (g6 : gI h 2 6 = nI c) (g8 : gI h 2 8 = nI κ) (H : ∀ h', fr [5, 6, 7] [(2, 6)] h h' → gI h' 2 6 = nI (c + 1) → aI h' 5 c = nI κ → aI h' 6 c = nI st → aL h' 7 c = gL h 2 10 → (∀ j, j ≠ c → aI h' 5 j = aI h 5 j ∧ aI h' 6 j = aI h 6 j ∧ aL h' 7 j = aL h 7 j) → Q none h') : zC mX8_keep [.ref 2, .int (nI st)] h Q := by
  have cc : (nI c).toNatClampNeg = c := nI_clamp (by omega)
  refine nX8_keep _ _ _ _ (bX8_keep_0 _ _ _ _ ⟨L.1.1, ?_⟩)
  rw [g6]
  refine br_f (nI_pos (by omega)) ⟨_, L.2.2.1.1, L.2.2.1.2.1, br_f (by rw [L.2.2.1.2.2]; exact nI_ge (b := 1601) (by omega) (by decide)) ⟨by rw [L.2.2.1.2.2]; exact vp_in_nI (by omega) (by decide), fun h7 e7 => ?_⟩⟩
  rw [cc, g8] at e7
  have F7 : fr [5, 6, 7] [(2, 6)] h h7 := by rw [e7]; exact fr_pI (by simp)
  have L7 := L.fr F7 (by simp) (by decide)
  have g67 : gI h7 2 6 = nI c := by rw [e7, gI_pI]; exact g6
  refine ⟨_, L7.2.2.2.1.1, L7.2.2.2.1.2.1, ?_⟩
  rw [g67, cc]
  refine ⟨by rw [L7.2.2.2.1.2.2]; exact vp_in_nI (by omega) (by decide), fun h13 e13 => ?_⟩
  have F13 : fr [5, 6, 7] [(2, 6)] h7 h13 := by rw [e13]; exact fr_pI (by simp)
  have L13 := L7.fr F13 (by simp) (by decide)
  have g613 : gI h13 2 6 = nI c := by rw [e13, gI_pI]; exact g67
  refine ⟨_, L13.2.2.2.2.1, L13.2.2.2.2.2.1, ?_⟩
  rw [g613, cc]
  refine ⟨by rw [L13.2.2.2.2.2.2]; exact vp_in_nI (by omega) (by decide), fun h20 e20 => ?_⟩
  have F20 : fr [5, 6, 7] [(2, 6)] h13 h20 := by rw [e20]; exact fr_pL (by simp)
  have L20 := L13.fr F20 (by simp) (by decide)
  have g620 : gI h20 2 6 = nI c := by rw [e20, gI_pL]; exact g613
  rw [g620, nI_1]
  intro h25 e25
  have F25 : fr [5, 6, 7] [(2, 6)] h20 h25 := by rw [e25]; exact fr_pF (by simp) L20.1.1 rfl rfl
  have i25 : ∀ r, aI h25 r = aI h20 r := fun r => by rw [e25]; exact funext fun i => aI_pF
  have l25 : ∀ r, aL h25 r = aL h20 r := fun r => by rw [e25]; exact funext fun i => aL_pF
  have i20 : ∀ r, aI h20 r = aI h13 r := fun r => by rw [e20]; exact funext fun i => aI_pL
  have l13 : ∀ r, aL h13 r = aL h7 r := fun r => by rw [e13]; exact funext fun i => aL_pI
  have l7 : ∀ r, aL h7 r = aL h r := fun r => by rw [e7]; exact funext fun i => aL_pI
  have gl : gL h13 2 10 = gL h 2 10 := by rw [e13, gL_pI, e7, gL_pI]
  refine H h25 (F7.tr (F13.tr (F20.tr F25))) (by rw [e25, gI_pF_s L20.1.1 (by decide)]) ?_ ?_ ?_ (fun j hj => ⟨?_, ?_, ?_⟩)
  · rw [i25, i20, e13, aI_pI_n (Or.inl (by decide)), e7]; exact aI_pI_s ⟨_, L.2.2.1.2.1⟩
  · rw [i25, i20, e13]; exact aI_pI_s ⟨_, L7.2.2.2.1.2.1⟩
  · rw [l25, e20, aL_pL_s L13.2.2.2.2.2.1, gl]
  · rw [i25, i20, e13, aI_pI_n (Or.inl (by decide)), e7, aI_pI_n (Or.inr hj)]
  · rw [i25, i20, e13, aI_pI_n (Or.inr hj), e7, aI_pI_n (Or.inl (by decide))]
  · rw [l25, e20, aL_pL_n (Or.inr hj), l13, l7]
theorem s8_split (L : cTL h) (T : cTp h n bs) (H : ∀ h' c, fr [5, 6, 7] [(2, 6), (2, 8), (2, 10)] h h' → cTk h' n bs c → Q none h') : zC mX8_split [.ref 2] h Q := by
  have n16 := T.2.1
  refine nX8_split _ _ _ (bX8_split_0 _ _ _ ⟨L.1.1, _, L.1.2.1, L.1.2.2.1, fun h4 e4 h7 e7 => ?_⟩)
  have F4 : fr [5, 6, 7] [(2, 6), (2, 8), (2, 10)] h h4 := by rw [e4]; exact fr_pF (by simp) L.1.1 rfl rfl
  have o4 := F4.o L.1.1
  have F7 : fr [5, 6, 7] [(2, 6), (2, 8), (2, 10)] h4 h7 := by rw [e7]; exact fr_pF (by simp) o4 rfl rfl
  have en : (if (nI (aN h 3)) < (gI h 2 5) then (nI (aN h 3)) else (gI h 2 5)) = nI n := by
    rw [L.1.2.2.2, T.1, if_neg (by rw [nI_ltI (by decide) (by omega)]; omega)]
  rw [en]
  have go : ∀ (d k : Nat) (h0 : zH), k + d = n + 1 → (∀ j, j < k → ¬ fin (tk n bs j)) → fr [5, 6, 7] [(2, 6), (2, 8), (2, 10)] h h0 → gI h0 2 6 = nI k → (gI h0 2 8 ≠ 30 ∧ gI h0 2 8 ≠ 31) → cAr h0 n bs k → zX mX8_split 28 [.ref 2, .int (nI n), .int (nI (if k = 0 then 0 else (tk n bs (k - 1)).2.2.2)), .int (nI k), .float 0, .float 0, .float 0] [] h0 Q := by
    intro d
    induction d with
    | zero =>
      intro k h0 hk nf F g6 g8 A
      have := tk_few (n := n) (bs := bs) (i := k) (fun j hj w => nf j hj (Or.inl w))
      omega
    | succ d ih =>
      intro k h0 hk nf F g6 g8 A
      have L0 := L.fr F (by simp) (by decide)
      obtain ⟨e, he⟩ : ∃ e, e = (if k = 0 then 0 else (tk n bs (k - 1)).2.2.2) := ⟨_, rfl⟩
      have en : e ≤ n := by
        rw [he]; split
        · exact Nat.zero_le _
        · exact tk_e _
      have tke : tk n bs k = lexT n bs e := by
        rw [he]
        cases k with
        | zero => rfl
        | succ k => rw [if_neg (Nat.succ_ne_zero k)]; rfl
      rw [← he]
      -- the token is kept
      have at176 : ∀ (h1 : zH), fr [5, 6, 7] [(2, 6), (2, 8), (2, 10)] h0 h1 → gI h1 2 6 = nI k → cAr h1 n bs k → gI h1 2 8 = nI (tk n bs k).1 → ((tk n bs k).1 ≤ 21 → gL h1 2 10 = lN (tk n bs k).2.2.1) → zX mX8_split 176 [.ref 2, .int (nI n), .int (nI (tk n bs k).2.2.2), .int (nI k), .int (nI (tk n bs k).2.1), .float 0, .float 0] [] h1 Q := fun h1 F1 g61 A1 g81 g10 => by
        have G1 := F.tr F1
        have L1 := L.fr G1 (by simp) (by decide)
        refine bX8_split_176 _ _ _ _ _ _ _ ⟨L1.1.1, s8_keep (κ := (tk n bs k).1) (x := 0) L1 (by omega) g61 g81 (fun h2 F2 a6 a5 as al ao => ⟨rfl, ?_⟩)⟩
        have G2 := G1.tr (F2.mo (X' := [5, 6, 7]) (Y' := [(2, 6), (2, 8), (2, 10)]) (by simp) (by simp))
        have L2 := L.fr G2 (by simp) (by decide)
        have c8 : gI h2 2 8 = nI (tk n bs k).1 := by rw [F2.gi (by simp)]; exact g81
        have A2 : cAr h2 n bs (k + 1) := fun j hj => by
          by_cases z : j = k
          · subst z; exact ⟨a5, as, fun w => by rw [al]; exact g10 w⟩
          · have o := ao j z
            rw [o.1, o.2.1, o.2.2]; exact A1 j (by omega)
        have b31 := (tk_k (n := n) (bs := bs) k).1
        rw [nI_1]
        by_cases w : fin (tk n bs k)
        · have K2 : cTk h2 n bs (k + 1) := ⟨Nat.succ_pos _, by omega, a6, w, fun j hj => nf j (by omega), A2⟩
          have hq : Q none h2 := H h2 (k + 1) G2 K2
          refine bX8_split_28 _ _ _ _ _ _ ⟨fun _ => hq, fun _ => ⟨L2.1.1, fun _ => hq, fun q1 => ⟨fun _ => hq, fun q2 => ?_⟩⟩⟩
          exfalso
          rw [c8] at q1 q2
          rcases w with w | w
          · rw [w] at q1; exact q1 rfl
          · rw [w] at q2; exact q2 rfl
        · have nx := ih (k + 1) h2 (by omega) (fun j hj => by
            by_cases z : j = k
            · rw [z]; exact w
            · exact nf j (by omega)) G2 a6 (by
            rw [c8]
            refine ⟨fun u => w (Or.inl ?_), fun u => w (Or.inr ?_)⟩
            · rw [nI_lit 30] at u; exact (nI_eq (by omega) (by decide)).mp u
            · rw [nI_lit 31] at u; exact (nI_eq (by omega) (by decide)).mp u) A2
          rw [if_neg (Nat.succ_ne_zero k)] at nx
          exact nx
      -- behind the blanks
      have at76 : ∀ (a : Nat), a = rnn n (fun i => isBn (bs i)) e → zX mX8_split 76 [.ref 2, .int (nI n), .int (nI a), .int (nI k), .float 0, .float 0, .float 0] [] h0 Q := fun a ha => by
        have an : a ≤ n := by rw [ha]; exact rnn_le en
        unfold lexT at tke
        rw [← ha] at tke
        simp only [] at tke
        have T0 := T.fr F (by simp) (by simp)
        refine bX8_split_76 _ _ _ _ _ _ ⟨L0.1.1, _, L0.1.2.1, ?_⟩
        have rest : ∀ x : Int32, (a < n → x = nI (bs a)) → oK h0 2 8 ∧ (∀ h6 : zH, h6 = (pF h0 2 10 (.long (0 : Int64))) → ((nI a < nI n → (zC mX11_isLetter [.int x] h6 (fun r0 h9 => ∃ x10 : Int32, r0 = some (.int x10) ∧ ((x10 = 0 → (zC mX11_isDigit [.int x] h9 (fun r0 h12 => ∃ x13 : Int32, r0 = some (.int x13) ∧ ((x13 = 0 → (zC mJ0_indexOf_0f7a4 [.retAddr 3, .int ((x.toUInt32 % 65536).toInt32)] h12 (fun r0 h15 => ∃ x16 : Int32, r0 = some (.int x16) ∧ ((0 ≤ x16 → (oK h15 2 8 ∧ (∀ h19 : zH, h19 = (pF h15 2 8 (.int ((22 : Int32) + x16))) → (zX mX8_split 176 [.ref 2, .int (nI n), .int (nI a + 1), .int (nI k), .int (nI a), .float 0, .float 0] [] h19 Q)))) ∧ (¬ (0 ≤ x16) → (oK h15 2 8 ∧ (∀ h22 : zH, h22 = (pF h15 2 8 (.int (31 : Int32))) → (zX mX8_split 176 [.ref 2, .int (nI n), .int (nI a + 1), .int (nI k), .int (nI a), .float 0, .float 0] [] h22 Q)))))))) ∧ (¬ (x13 = 0) → (oK h12 2 8 ∧ (zC mX8_endOfNumber [.ref 2, .int (nI a), .int (nI n)] h12 (fun r0 h25 => ∃ x26 : Int32, r0 = some (.int x26) ∧ (zX mX8_split 176 [.ref 2, .int (nI n), .int x26, .int (nI k), .int (nI a), .float 0, .float 0] [] h25 Q))))))))) ∧ (¬ (x10 = 0) → (oK h9 2 8 ∧ (zC mX8_endOfWord [.ref 2, .int (nI a), .int (nI n)] h9 (fun r0 h28 => ∃ x29 : Int32, r0 = some (.int x29) ∧ (zX mX8_split 176 [.ref 2, .int (nI n), .int x29, .int (nI k), .int (nI a), .float 0, .float 0] [] h28 Q))))))))) ∧ (¬ (nI a < nI n) → (∀ h30 : zH, h30 = (pF h6 2 8 (.int (30 : Int32))) → (zX mX8_split 176 [.ref 2, .int (nI n), .int (nI a), .int (nI k), .int (nI a), .float 0, .float 0] [] h30 Q))))) := fun x hx => by
          refine ⟨L0.1.1, fun h6 e6 => ?_⟩
          have F6 : fr [5, 6, 7] [(2, 6), (2, 8), (2, 10)] h0 h6 := by rw [e6]; exact fr_pF (by simp) L0.1.1 rfl rfl
          have L6 := L0.fr F6 (by simp) (by decide)
          have T6 := T0.fr F6 (by simp) (by simp)
          have c6 : gI h6 2 6 = nI k := by rw [e6, gI_pF_n (Or.inr (by decide))]; exact g6
          have c10 : gL h6 2 10 = lN 0 := by rw [e6, gL_pF_s L0.1.1 (by decide)]; rfl
          have A6 : cAr h6 n bs k := fun j hj => by
            have := A j hj
            rw [show aI h6 5 = aI h0 5 by rw [e6]; exact funext fun i => aI_pF, show aI h6 6 = aI h0 6 by rw [e6]; exact funext fun i => aI_pF, show aL h6 7 = aL h0 7 by rw [e6]; exact funext fun i => aL_pF]
            exact this
          rw [nI_ltI (by omega) (by omega)]
          refine ⟨fun q => ?_, fun q h30 e30 => ?_⟩
          · rw [if_neg (by omega)] at tke
            have b2 := T6.2.2 a q
            rw [hx q]
            -- a store of the kind only
            have one : ∀ (h9 : zH) (κ : Nat), h9 = pF h6 2 8 (.int (nI κ)) → fr [5, 6, 7] [(2, 6), (2, 8), (2, 10)] h0 h9 ∧ gI h9 2 6 = nI k ∧ cAr h9 n bs k ∧ gI h9 2 8 = nI κ := fun h9 κ e9 => by
              refine ⟨F6.tr (by rw [e9]; exact fr_pF (by simp) L6.1.1 rfl rfl), by rw [e9, gI_pF_n (Or.inr (by decide))]; exact c6, fun j hj => ?_, by rw [e9, gI_pF_s L6.1.1 (by decide)]⟩
              have := A6 j hj
              rw [show aI h9 5 = aI h6 5 by rw [e9]; exact funext fun i => aI_pF, show aI h9 6 = aI h6 6 by rw [e9]; exact funext fun i => aI_pF, show aL h9 7 = aL h6 7 by rw [e9]; exact funext fun i => aL_pF]
              exact this
            refine s11_isLetter (by omega) (fun w => ⟨_, rfl, br_f (by decide +kernel) ⟨L6.1.1, s8_endOfWord L6 T6 q w c10 (fun h28 F28 k8 k10 => ⟨_, rfl, ?_⟩)⟩⟩) (fun w => ⟨_, rfl, br_t rfl (s11_isDigit (by omega) (fun wd => ⟨_, rfl, br_f (by decide +kernel) ⟨L6.1.1, s8_endOfNumber L6 T6 q c10 (fun h25 F25 k8 k10 => ⟨_, rfl, ?_⟩)⟩⟩) (fun wd => ⟨_, rfl, br_t rfl ?_⟩))⟩)
            · rw [if_pos w] at tke
              have FF := F6.tr (F28.mo (X' := [5, 6, 7]) (Y' := [(2, 6), (2, 8), (2, 10)]) (by simp) (by simp))
              have r := at176 h28 FF (by rw [F28.gi (by simp)]; exact c6) (A6.fr F28 (by simp) (by simp) (by simp))
              rw [tke] at r
              by_cases w8 : 8 < rnn n (fun i => isLn (bs i)) a - a
              · rw [if_pos w8] at r k8
                exact r k8 (fun u => absurd (show (31 : Nat) ≤ 21 from u) (by decide))
              · rw [if_neg w8] at r k8
                exact r k8 (fun _ => k10)
            · rw [w, if_neg (by decide), if_pos wd] at tke
              have FF := F6.tr (F25.mo (X' := [5, 6, 7]) (Y' := [(2, 6), (2, 8), (2, 10)]) (by simp) (by simp))
              have r := at176 h25 FF (by rw [F25.gi (by simp)]; exact c6) (A6.fr F25 (by simp) (by simp) (by simp))
              rw [tke] at r
              by_cases w8 : 4 < rnn n (fun i => isDn (bs i)) a - a ∨ (rnn n (fun i => isDn (bs i)) a < n ∧ isLn (bs (rnn n (fun i => isDn (bs i)) a)) = true)
              · rw [if_pos w8] at r k8
                exact r k8 (fun u => absurd (show (31 : Nat) ≤ 21 from u) (by decide))
              · rw [if_neg w8] at r k8
                exact r k8 (fun _ => k10)
            · have ec : ((nI (bs a)).toUInt32 % 65536).toInt32 = nI (bs a) := by rw [pk_char, pk_tn (by omega), Nat.mod_eq_of_lt (by omega)]
              rw [ec]
              rw [w, wd, if_neg (by decide), if_neg (by decide)] at tke
              refine sJ0_indexOf b2.2 (fun ws => ⟨_, rfl, br_t (nI_pos' (by omega)) ⟨L6.1.1, fun h19 e19 => ?_⟩⟩) (fun ws => ⟨_, rfl, br_f (by decide +kernel) ⟨L6.1.1, fun h22 e22 => ?_⟩⟩)
              · rw [if_pos ws] at tke
                rw [nI_lit 22, nI_add] at e19
                obtain ⟨o1, o2, o3, o4⟩ := one h19 _ e19
                have r := at176 h19 o1 o2 o3
                rw [tke] at r
                rw [nI_1 a]
                exact r o4 (fun u => absurd (show 22 + sgx (bs a) ≤ 21 from u) (by omega))
              · rw [if_neg ws] at tke
                rw [nI_lit 31] at e22
                obtain ⟨o1, o2, o3, o4⟩ := one h22 _ e22
                have r := at176 h22 o1 o2 o3
                rw [tke] at r
                rw [nI_1 a]
                exact r o4 (fun u => absurd (show (31 : Nat) ≤ 21 from u) (by decide))
          · rw [if_pos (by omega)] at tke
            have na : a = n := by omega
            have F30 : fr [5, 6, 7] [(2, 6), (2, 8), (2, 10)] h6 h30 := by rw [e30]; exact fr_pF (by simp) L6.1.1 rfl rfl
            have r := at176 h30 (F6.tr F30) (by rw [e30, gI_pF_n (Or.inr (by decide))]; exact c6) (fun j hj => by
              have := A6 j hj
              rw [show aI h30 5 = aI h6 5 by rw [e30]; exact funext fun i => aI_pF, show aI h30 6 = aI h6 6 by rw [e30]; exact funext fun i => aI_pF, show aL h30 7 = aL h6 7 by rw [e30]; exact funext fun i => aL_pF]
              exact this)
            rw [tke] at r
            rw [na]
            exact r (by rw [e30, gI_pF_s L6.1.1 (by decide)]; rfl) (fun u => absurd (show (30 : Nat) ≤ 21 from u) (by decide))
        by_cases a16 : a < 1600
        · exact s11_byte L0 T0 a16 ⟨_, rfl, rest _ (fun w => (T0.2.2 a w).1)⟩
        · refine s11_at L0.1.2.2.1 (by rw [L0.1.2.2.2]; decide) ⟨_, rfl, rest _ (fun w => by omega)⟩
      -- the blanks
      have at51 : ∀ (d2 i : Nat), i + d2 = n → rnn n (fun i => isBn (bs i)) i = rnn n (fun i => isBn (bs i)) e → zX mX8_split 51 [.ref 2, .int (nI n), .int (nI i), .int (nI k), .float 0, .float 0, .float 0] [] h0 Q := by
        intro d2
        have T0 := T.fr F (by simp) (by simp)
        induction d2 with
        | zero =>
          intro i hi hr
          exact bX8_split_51 _ _ _ _ _ _ (br_t (nI_le (by omega) (by omega)) (at76 i (by rw [← hr, rnn_n (by omega)])))
        | succ d2 ih2 =>
          intro i hi hr
          have b2 := T0.2.2 i (by omega)
          refine bX8_split_51 _ _ _ _ _ _ (br_f (nI_ge (by omega) (by omega)) ⟨L0.1.1, _, L0.1.2.1, s11_byte L0 T0 (by omega) ⟨_, rfl, ?_⟩⟩)
          rw [b2.1]
          refine s11_isBlank (by omega) (fun w => ⟨_, rfl, br_f (by decide +kernel) ?_⟩) (fun w => ⟨_, rfl, br_t rfl (at76 i ?_)⟩)
          · rw [nI_1]
            exact ih2 (i + 1) (by omega) (by rw [← hr]; exact (rnn_s (p := fun i => isBn (bs i)) (by omega) w).symm)
          · rw [← hr]; exact (rnn_f (p := fun i => isBn (bs i)) w).symm
      exact bX8_split_28 _ _ _ _ _ _ (br_f (nI_nlt (by omega) (by omega)) ⟨L0.1.1, br_f g8.1 (br_f g8.2 (at51 (n - e) e (by omega) rfl))⟩)
  have g0 := go (n + 1) 0 h7 (by omega) (fun j hj => absurd hj (Nat.not_lt_zero _)) (F4.tr F7) (by rw [e7, gI_pF_n (Or.inr (by decide)), e4, gI_pF_s L.1.1 (by decide)]; rfl) (by rw [e7, gI_pF_s o4 (by decide)]; decide +kernel) (fun j hj => absurd hj (Nat.not_lt_zero _))
  rw [if_pos rfl] at g0
  exact g0
end

/-! ===== the class: tokens ===== -/
section
variable {h h' : zH} {Q : Option Value → zH → Prop} {n : Nat} {bs : Nat → Nat}
theorem s11_isLetter {c : Nat} (hc : c < 2 ^ 31) (H1 : isLn c = true → Q (some (.int 1)) h) (H0 : isLn c = false → Q (some (.int 0)) h) : zC mX11_isLetter [.int (nI c)] h Q := by
  refine nX11_isLetter _ _ _ (bX11_isLetter_0 _ _ _ ?_)
  rw [nI_lit 97, nI_lit 122, nI_ltI hc (by decide), nI_ltI (by decide) hc]
  refine ⟨fun q => H0 ?_, fun q => ⟨fun q2 => H0 ?_, fun q2 => H1 (isLn_iff.mpr ⟨by omega, by omega⟩)⟩⟩
  · rw [← Bool.not_eq_true, isLn_iff]; omega
  · rw [← Bool.not_eq_true, isLn_iff]; omega
theorem s11_isDigit {c : Nat} (hc : c < 2 ^ 31) (H1 : isDn c = true → Q (some (.int 1)) h) (H0 : isDn c = false → Q (some (.int 0)) h) : zC mX11_isDigit [.int (nI c)] h Q := by
  refine nX11_isDigit _ _ _ (bX11_isDigit_0 _ _ _ ?_)
  rw [nI_lit 48, nI_lit 57, nI_ltI hc (by decide), nI_ltI (by decide) hc]
  refine ⟨fun q => H0 ?_, fun q => ⟨fun q2 => H0 ?_, fun q2 => H1 (isDn_iff.mpr ⟨by omega, by omega⟩)⟩⟩
  · rw [← Bool.not_eq_true, isDn_iff]; omega
  · rw [← Bool.not_eq_true, isDn_iff]; omega
theorem s11_isBlank {c : Nat} (hc : c < 2 ^ 31) (H1 : isBn c = true → Q (some (.int 1)) h) (H0 : isBn c = false → Q (some (.int 0)) h) : zC mX11_isBlank [.int (nI c)] h Q := by
  refine nX11_isBlank _ _ _ (bX11_isBlank_0 _ _ _ ?_)
  rw [nI_lit 32, nI_lit 10, nI_eq hc (by decide), nI_eq hc (by decide)]
  refine ⟨fun q => H1 (isBn_iff.mpr (Or.inl q)), fun q => ⟨fun q2 => H1 (isBn_iff.mpr (Or.inr q2)), fun q2 => H0 ?_⟩⟩
  rw [← Bool.not_eq_true, isBn_iff]; omega
theorem s8_withLetter {v c : Nat} (hc : isLn c = true) (H : Q (some (.long (lN (32 * v + (c - 96))))) h) : zC mX8_withLetter [.long (lN v), .int (nI c)] h Q := by
  have l := isLn_iff.mp hc
  refine nX8_withLetter _ _ _ _ (bX8_withLetter_0 _ _ _ _ ?_)
  rw [nI_lit 97, nI_sub (by omega), nI_1, nI_l (n := c - 97 + 1) (by omega), lN_so _ (k := 5) (s := (5 : Int32).toInt64 &&& 63) (by decide) (by decide +kernel) (by omega), show c - 97 + 1 = c - 96 by omega]
  exact H
/-- the tape's layout -/
def cTL (h : zH) : Prop := cTpL h ∧ (gR h 2 1 = some 4 ∧ lK h 4 ∧ aN h 4 = 20 ∧ ∀ k, k < 20 → aL h 4 k = lN (ownL.getD k 0)) ∧ (gR h 2 2 = some 5 ∧ iK h 5 0 ∧ aN h 5 = 1601) ∧ (gR h 2 3 = some 6 ∧ iK h 6 0 ∧ aN h 6 = 1601) ∧ (gR h 2 4 = some 7 ∧ lK h 7 ∧ aN h 7 = 1601)
theorem cTL.fr {X : List Nat} {Y : List (Nat × Nat)} (L : cTL h) (F : fr X Y h h') (hX : 4 ∉ X) (hY : [0, 1, 2, 3, 4].all (fun f => !(Y.contains (2, f))) = true) : cTL h' := by
  simp only [List.all_cons, List.all_nil, and_true, Bool.and_eq_true] at hY
  obtain ⟨y0, y1, y2, y3, y4⟩ := hY
  obtain ⟨⟨a1, a2, a3, a4⟩, ⟨b1, b2, b3, b4⟩, ⟨c1, c2, c3⟩, ⟨d1, d2, d3⟩, ⟨e1, e2, e3⟩⟩ := L
  exact ⟨⟨F.o a1, by rw [F.gr (ni_of y0)]; exact a2, F.ik a3, by rw [F.n]; exact a4⟩, ⟨by rw [F.gr (ni_of y1)]; exact b1, F.lk b2, by rw [F.n]; exact b3, fun k hk => by rw [F.l hX]; exact b4 k hk⟩, ⟨by rw [F.gr (ni_of y2)]; exact c1, F.ik c2, by rw [F.n]; exact c3⟩, ⟨by rw [F.gr (ni_of y3)]; exact d1, F.ik d2, by rw [F.n]; exact d3⟩, ⟨by rw [F.gr (ni_of y4)]; exact e1, F.lk e2, by rw [F.n]; exact e3⟩⟩
theorem cTp.fr {X : List Nat} {Y : List (Nat × Nat)} (T : cTp h n bs) (F : fr X Y h h') (hX : 3 ∉ X) (hY : (2, 5) ∉ Y) : cTp h' n bs := ⟨by rw [F.gi hY]; exact T.1, T.2.1, fun i hi => by rw [F.i hX]; exact T.2.2 i hi⟩
/-- at on the bytes -/
theorem s11_byte {k : Nat} (L : cTL h) (T : cTp h n bs) (hk : k < 1600) (H : Q (some (.int (aI h 3 k))) h) : zC mX11_at [.ref 3, .int (nI k)] h Q := s11_atN L.1.2.2.1 L.1.2.2.2 hk (by decide) H
theorem s8_endOfWord {a : Nat} (L : cTL h) (T : cTp h n bs) (ha : a < n) (hl : isLn (bs a) = true) (h10 : gL h 2 10 = lN 0)
    (H : ∀ h', fr [] [(2, 8), (2, 10)] h h' → gI h' 2 8 = nI (if 8 < rnn n (fun i => isLn (bs i)) a - a then 31 else kwx (wv bs a (rnn n (fun i => isLn (bs i)) a - a))) → gL h' 2 10 = lN (wv bs a (rnn n (fun i => isLn (bs i)) a - a)) → Q (some (.int (nI (rnn n (fun i => isLn (bs i)) a)))) h') : zC mX8_endOfWord [.ref 2, .int (nI a), .int (nI n)] h Q := by
  have n16 := T.2.1
  obtain ⟨z, hz⟩ : ∃ z, z = rnn n (fun i => isLn (bs i)) a := ⟨_, rfl⟩
  have zn : z ≤ n := by rw [hz]; exact rnn_le (by omega)
  have za : a ≤ z := by rw [hz]; exact rnn_ge
  have al : ∀ k, k < z - a → isLn (bs (a + k)) = true := fun k hk => rnn_all (n := n) (p := fun i => isLn (bs i)) (i := a) (k := a + k) (by omega) (by rw [← hz]; omega)
  rw [← hz] at H
  have x40 : z - a ≤ 8 → wv bs a (z - a) < 2 ^ 64 := fun w => Nat.lt_of_lt_of_le (wv_lt (z - a) al) (Nat.le_trans (Nat.pow_le_pow_right (by decide) w) (by decide))
  have own64 : ∀ j, j < 20 → ownL.getD j 0 < 2 ^ 64 := by decide +kernel
  obtain ⟨x, hx⟩ : ∃ x, x = wv bs a (z - a) := ⟨_, rfl⟩
  rw [← hx] at H x40
  -- which word
  have at55 : ∀ (d j : Nat) (h0 : zH), j + d = 20 → fr [] [(2, 8), (2, 10)] h h0 → gL h0 2 10 = lN x → (z - a ≤ 8 → gI h0 2 8 = nI (if kwx x < j then kwx x else 20)) → zX mX8_endOfWord 55 [.ref 2, .int (nI a), .float 0, .int (nI z), .int (nI j)] [] h0 Q := by
    intro d
    induction d with
    | zero =>
      intro j h0 hj F g10 g8
      have : j = 20 := by omega
      subst this
      have L0 := L.fr F (by simp) (by decide)
      refine bX8_endOfWord_55 _ _ _ _ _ _ ⟨L0.1.1, _, L0.2.1.1, L0.2.1.2.1, br_t (by rw [L0.2.1.2.2.1]; decide +kernel) ?_⟩
      rw [nI_sub za, nI_lit 8, nI_leI (by omega) (by decide)]
      refine ⟨fun q => H h0 F ?_ g10, fun q h6 e6 => H h6 (F.tr (by rw [e6]; exact fr_pF (by simp) L0.1.1 rfl rfl)) ?_ ?_⟩
      · rw [if_neg (by omega), g8 q]
        by_cases w : kwx x < 20
        · rw [if_pos w]
        · rw [if_neg w, show kwx x = 20 by have := @kwx_le x; omega]
      · rw [if_pos (by omega), e6, gI_pF_s L0.1.1 (by decide)]; rfl
      · rw [e6, gL_pF_n (Or.inr (by decide))]; exact g10
    | succ d ih =>
      intro j h0 hj F g10 g8
      have L0 := L.fr F (by simp) (by decide)
      have cj : (nI j).toNatClampNeg = j := nI_clamp (by omega)
      refine bX8_endOfWord_55 _ _ _ _ _ _ ⟨L0.1.1, _, L0.2.1.1, L0.2.1.2.1, br_f (by rw [L0.2.1.2.2.1]; exact nI_ge (b := 20) (by omega) (by decide)) ⟨by rw [L0.2.1.2.2.1]; exact vp_in_nI (by omega) (by decide), ?_⟩⟩
      rw [cj, L0.2.1.2.2.2 j (by omega), g10, lg_cmp_eq, nI_1]
      have ho : ownL[j]? = some (ownL.getD j 0) := by rw [List.getD_eq_getElem?_getD, List.getElem?_eq_getElem (show j < ownL.length from (by omega : j < 20))]; rfl
      refine ⟨fun q h11 e11 => ?_, fun q => ih (j + 1) h0 (by omega) F g10 (fun w => ?_)⟩
      · have F11 : fr [] [(2, 8), (2, 10)] h0 h11 := by rw [e11]; exact fr_pF (by simp) L0.1.1 rfl rfl
        refine ih (j + 1) h11 (by omega) (F.tr F11) (by rw [e11, gL_pF_n (Or.inr (by decide))]; exact g10) (fun w => ?_)
        have e := (lN_eq6 (own64 j (by omega)) (x40 w)).mp q
        rw [e] at ho
        have kj := kwx_of ho
        rw [e11, gI_pF_s L0.1.1 (by decide), if_pos (by omega), kj]
      · rw [g8 w]
        by_cases u : kwx x < j
        · rw [if_pos u, if_pos (by omega)]
        · rw [if_neg u]
          by_cases u2 : kwx x < j + 1
          · exfalso
            apply q
            have k1 := kwx_lt (x := x) (by omega)
            rw [show kwx x = j by omega, ho] at k1
            rw [Option.some.inj k1]
          · rw [if_neg u2]
  have at2 : ∀ (d k : Nat) (h0 : zH), k + d = n → a ≤ k → rnn n (fun i => isLn (bs i)) k = z → fr [] [(2, 8), (2, 10)] h h0 → gL h0 2 10 = lN (wv bs a (k - a)) → zX mX8_endOfWord 2 [.ref 2, .int (nI a), .int (nI n), .int (nI k), .float 0] [] h0 Q := by
    intro d
    have stop : ∀ (k : Nat) (h0 : zH), fr [] [(2, 8), (2, 10)] h h0 → gL h0 2 10 = lN (wv bs a (k - a)) → k = z → ∀ h3, h3 = pF h0 2 8 (.int (20 : Int32)) → zX mX8_endOfWord 55 [.ref 2, .int (nI a), .float 0, .int (nI k), .int (0 : Int32)] [] h3 Q := fun k h0 F g10 hk h3 e3 => by
      have L0 := L.fr F (by simp) (by decide)
      subst hk
      rw [← hx] at g10
      refine at55 20 0 h3 rfl (F.tr (by rw [e3]; exact fr_pF (by simp) L0.1.1 rfl rfl)) (by rw [e3, gL_pF_n (Or.inr (by decide))]; exact g10) (fun _ => ?_)
      rw [e3, gI_pF_s L0.1.1 (by decide), if_neg (Nat.not_lt_zero _)]; rfl
    induction d with
    | zero =>
      intro k h0 hk hak hr F g10
      have L0 := L.fr F (by simp) (by decide)
      refine bX8_endOfWord_2 _ _ _ _ _ _ (br_t (nI_le (by omega) (by omega)) ⟨L0.1.1, fun h3 e3 => stop k h0 F g10 ?_ h3 e3⟩)
      rw [← hr, rnn_n (by omega)]
    | succ d ih =>
      intro k h0 hk hak hr F g10
      have L0 := L.fr F (by simp) (by decide)
      have T0 := T.fr F (by simp) (by simp)
      have b2 := T0.2.2 k (by omega)
      refine bX8_endOfWord_2 _ _ _ _ _ _ (br_f (nI_ge (by omega) (by omega)) ⟨L0.1.1, _, L0.1.2.1, s11_byte L0 T0 (by omega) ⟨_, rfl, ?_⟩⟩)
      rw [b2.1]
      refine s11_isLetter (by omega) (fun w => ⟨_, rfl, br_f (by decide +kernel) ⟨L0.1.1, _, L0.1.2.1, s11_byte L0 T0 (by omega) ⟨_, rfl, ?_⟩⟩⟩) (fun w => ⟨_, rfl, br_t rfl ⟨L0.1.1, fun h3 e3 => stop k h0 F g10 ?_ h3 e3⟩⟩)
      · rw [b2.1, g10]
        refine s8_withLetter w ⟨_, rfl, L0.1.1, fun h22 e22 => ?_⟩
        rw [nI_1]
        refine ih (k + 1) h22 (by omega) (by omega) (by rw [← hr]; exact (rnn_s (p := fun i => isLn (bs i)) (by omega) w).symm) (F.tr (by rw [e22]; exact fr_pF (by simp) L0.1.1 rfl rfl)) ?_
        rw [e22, gL_pF_s L0.1.1 (by decide), show k + 1 - a = k - a + 1 by omega, wv, show a + (k - a) = k by omega]
      · rw [← hr]; exact (rnn_f (p := fun i => isLn (bs i)) w).symm
  exact nX8_endOfWord _ _ _ _ _ (bX8_endOfWord_0 _ _ _ _ _ (at2 (n - a) a h (by omega) (Nat.le_refl _) hz.symm fr.rf (by rw [Nat.sub_self]; exact h10)))
theorem s8_endOfNumber {a : Nat} (L : cTL h) (T : cTp h n bs) (ha : a < n) (h10 : gL h 2 10 = lN 0)
    (H : ∀ h', fr [] [(2, 8), (2, 10)] h h' → gI h' 2 8 = nI (if 4 < rnn n (fun i => isDn (bs i)) a - a ∨ (rnn n (fun i => isDn (bs i)) a < n ∧ isLn (bs (rnn n (fun i => isDn (bs i)) a)) = true) then 31 else 21) → gL h' 2 10 = lN (nv bs a (rnn n (fun i => isDn (bs i)) a - a)) → Q (some (.int (nI (rnn n (fun i => isDn (bs i)) a)))) h') : zC mX8_endOfNumber [.ref 2, .int (nI a), .int (nI n)] h Q := by
  have n16 := T.2.1
  obtain ⟨z, hz⟩ : ∃ z, z = rnn n (fun i => isDn (bs i)) a := ⟨_, rfl⟩
  have zn : z ≤ n := by rw [hz]; exact rnn_le (by omega)
  have za : a ≤ z := by rw [hz]; exact rnn_ge
  rw [← hz] at H
  have at53 : ∀ (k : Nat) (h0 : zH), k = z → fr [] [(2, 8), (2, 10)] h h0 → gL h0 2 10 = lN (nv bs a (k - a)) → zX mX8_endOfNumber 53 [.ref 2, .int (nI a), .int (nI n), .int (nI k), .float 0] [] h0 Q := fun k h0 hk F g10 => by
    subst hk
    have L0 := L.fr F (by simp) (by decide)
    have T0 := T.fr F (by simp) (by simp)
    have bad : (4 < k - a ∨ (k < n ∧ isLn (bs k) = true)) → ∀ h1, h1 = pF h0 2 8 (.int (31 : Int32)) → Q (some (.int (nI k))) h1 := fun w h1 e1 => by
      rw [if_pos w] at H
      exact H h1 (F.tr (by rw [e1]; exact fr_pF (by simp) L0.1.1 rfl rfl)) (by rw [e1, gI_pF_s L0.1.1 (by decide)]; rfl) (by rw [e1, gL_pF_n (Or.inr (by decide))]; exact g10)
    have at76 : ¬ (k < n ∧ isLn (bs k) = true) → zX mX8_endOfNumber 76 [.ref 2, .int (nI a), .float 0, .int (nI k), .float 0] [] h0 Q := fun w => by
      refine bX8_endOfNumber_76 _ _ _ _ _ (bX8_endOfNumber_77 _ _ _ _ _ _ (br_t rfl ?_))
      rw [nI_sub za, nI_lit 4, nI_leI (by omega) (by decide)]
      refine ⟨fun q => ⟨L0.1.1, fun h1 e1 => ?_⟩, fun q => ⟨L0.1.1, bad (Or.inl (by omega))⟩⟩
      rw [if_neg (fun u => by rcases u with u | u; omega; exact w u)] at H
      exact H h1 (F.tr (by rw [e1]; exact fr_pF (by simp) L0.1.1 rfl rfl)) (by rw [e1, gI_pF_s L0.1.1 (by decide)]; rfl) (by rw [e1, gL_pF_n (Or.inr (by decide))]; exact g10)
    by_cases kn : k < n
    · refine bX8_endOfNumber_53 _ _ _ _ _ _ (br_f (nI_ge kn (by omega)) ⟨L0.1.1, _, L0.1.2.1, s11_byte L0 T0 (by omega) ⟨_, rfl, ?_⟩⟩)
      have b2 := T0.2.2 k kn
      rw [b2.1]
      exact s11_isLetter (by omega) (fun w => ⟨_, rfl, br_f (by decide +kernel) (bX8_endOfNumber_77 _ _ _ _ _ _ (br_f (by decide +kernel) ⟨L0.1.1, bad (Or.inr ⟨kn, w⟩)⟩))⟩) (fun w => ⟨_, rfl, br_t rfl (at76 (fun u => by rw [w] at u; exact absurd u.2 (by decide)))⟩)
    · exact bX8_endOfNumber_53 _ _ _ _ _ _ (br_t (nI_le (by omega) (by omega)) (at76 (fun u => kn u.1)))
  have at2 : ∀ (d k : Nat) (h0 : zH), k + d = n → a ≤ k → rnn n (fun i => isDn (bs i)) k = z → fr [] [(2, 8), (2, 10)] h h0 → gL h0 2 10 = lN (nv bs a (k - a)) → zX mX8_endOfNumber 2 [.ref 2, .int (nI a), .int (nI n), .int (nI k), .float 0] [] h0 Q := by
    intro d
    induction d with
    | zero =>
      intro k h0 hk hak hr F g10
      exact bX8_endOfNumber_2 _ _ _ _ _ _ (br_t (nI_le (by omega) (by omega)) (at53 k h0 (by rw [← hr, rnn_n (by omega)]) F g10))
    | succ d ih =>
      intro k h0 hk hak hr F g10
      have L0 := L.fr F (by simp) (by decide)
      have T0 := T.fr F (by simp) (by simp)
      have b2 := T0.2.2 k (by omega)
      refine bX8_endOfNumber_2 _ _ _ _ _ _ (br_f (nI_ge (by omega) (by omega)) ⟨L0.1.1, _, L0.1.2.1, s11_byte L0 T0 (by omega) ⟨_, rfl, ?_⟩⟩)
      rw [b2.1]
      refine s11_isDigit (by omega) (fun w => ⟨_, rfl, br_f (by decide +kernel) ⟨L0.1.1, _, L0.1.2.1, s11_byte L0 T0 (by omega) ⟨_, rfl, L0.1.1, fun h14 e14 => ?_⟩⟩⟩) (fun w => ⟨_, rfl, br_t rfl (at53 k h0 ?_ F g10)⟩)
      · have dd := isDn_iff.mp w
        have e1 : ((lN (nv bs a (k - a)) * (10 : Int64)) + (nI (bs k)).toInt64) - (48 : Int64) = lN (nv bs a (k + 1 - a)) := by
          rw [nI_l (n := bs k) (by omega), show (10 : Int64) = lN 10 from rfl, show (48 : Int64) = lN 48 from rfl, lN_mul, lN_add, lN_sub (by omega), show k + 1 - a = k - a + 1 by omega, nv, show a + (k - a) = k by omega]
          congr 1; omega
        rw [b2.1, g10, e1] at e14
        rw [nI_1]
        exact ih (k + 1) h14 (by omega) (by omega) (by rw [← hr]; exact (rnn_s (p := fun i => isDn (bs i)) (by omega) w).symm) (F.tr (by rw [e14]; exact fr_pF (by simp) L0.1.1 rfl rfl)) (by rw [e14, gL_pF_s L0.1.1 (by decide)])
      · rw [← hr]; exact (rnn_f (p := fun i => isDn (bs i)) w).symm
  exact nX8_endOfNumber _ _ _ _ _ (bX8_endOfNumber_0 _ _ _ _ _ (at2 (n - a) a h (by omega) (Nat.le_refl _) hz.symm fr.rf (by rw [Nat.sub_self]; exact h10)))
end

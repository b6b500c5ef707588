/-! ===== the class: whom a ballot looks at; one ballot heard of all rows ===== -/
section
variable {h h' : zH} {t N V sp bl : Nat} {st wt mk : Nat → Nat} {Q : Option Value → zH → Prop} {X : List Nat} {Y : List (Nat × Nat)}
theorem and_e0 (a m : Nat) : a &&& m = 0 ↔ ∀ i, a.testBit i = true → m.testBit i = true → False := by
  constructor
  · intro e i h1 h2
    have := Nat.testBit_and a m i
    rw [e, h1, h2] at this
    simp at this
  · intro e
    apply Nat.eq_of_testBit_eq
    intro i
    rw [Nat.testBit_and, Nat.zero_testBit]
    cases h1 : a.testBit i
    · rfl
    · cases h2 : m.testBit i
      · rfl
      · exact absurd (e i h1 h2) id
theorem tb_or2 (x j w : Nat) : (x ||| 2 ^ j).testBit w = (x.testBit w || decide (j = w)) := by
  rw [Nat.testBit_or, Nat.testBit_two_pow]
theorem nI_1shl {j : Nat} (hj : j < 31) : (1 : Int32) <<< (nI j &&& 31) = nI (2 ^ j) := by
  rw [nI_lit 1, nI_shl (by omega) (by rw [Nat.one_mul]; exact Nat.pow_lt_pow_right (by decide) (by omega)), Nat.one_mul]
/-- the set of those who are looked at, as bits -/
theorem s10_looksOf {own n u : Nat} {R : List Nat} {c : Nat → Nat × Nat × Nat} (T : cT h t N V st wt) (ho : own < V) (B : cB h R bl n c u) (H : ∀ L, L < 256 → (∀ w, L.testBit w = lkB V st own n c w) → Q (some (.int (nI L))) h) : zC mX10_looksOf [.ref t, .int (nI own), .ref bl] h Q := by
  have hV := T.V8
  obtain ⟨b1, -, -, -, bv, bs, w1, w2, w3, w4, w5, w6⟩ := B
  have L : ∀ (d j a : Nat), j + d = V → a < 256 → (∀ w, a.testBit w = (akV n c w || (decide (w < j) && (akS n c 0 || akS n c (st w + 1))))) → zX mX10_looksOf 8 [.ref t, .int (nI own), .ref bl, .int (nI a), .int (nI j), .float 0] [] h Q := by
    intro d
    induction d with
    | zero =>
      intro j a hj ha e
      have : j = V := by omega
      subst this
      refine bX10_looksOf_8 _ _ _ _ _ _ _ ⟨T.o, br_t (by rw [T.e8]; exact nI_le (Nat.le_refl _) (by omega)) ?_⟩
      rw [nI_1shl (by omega), nI_andn]
      refine H _ (Nat.xor_lt_two_pow (n := 8) ha (Nat.lt_of_le_of_lt Nat.and_le_left ha)) (fun w => ?_)
      rw [Nat.testBit_xor, Nat.testBit_and, Nat.testBit_two_pow, e w, lkB]
      by_cases z : w = own
      · subst z; simp
      · have : ¬ own = w := fun y => z y.symm
        simp [z, this]
    | succ d ih =>
      intro j a hj ha e
      obtain ⟨v1, v2, v3, v4⟩ := T.v j (by omega)
      refine bX10_looksOf_8 _ _ _ _ _ _ _ ⟨T.o, br_f (by rw [T.e8]; exact nI_ge (by omega) (by omega)) ⟨_, T.r3, s11_atN T.k3 T.n3 (by omega) (by decide) ⟨_, rfl, b1, ?_⟩⟩⟩
      have e3 : (1 : Int32) ||| nI (2 ^ (st j + 1)) = nI (1 ||| 2 ^ (st j + 1)) := nI_or 1 _
      rw [v1, nI_1, nI_1shl (by omega), e3, w4, nI_and, ← nI_0, nI_eq (by have := Nat.and_le_left (n := bs) (m := 1 ||| 2 ^ (st j + 1)); omega) (by decide)]
      have k1 : (bs &&& (1 ||| 2 ^ (st j + 1)) = 0) ↔ ¬ (akS n c 0 || akS n c (st j + 1)) = true := by
        rw [and_e0]
        have e1 : ∀ i, (1 ||| 2 ^ (st j + 1)).testBit i = (decide (0 = i) || decide (st j + 1 = i)) := fun i => by
          rw [tb_or2, show (1 : Nat) = 2 ^ 0 from rfl, Nat.testBit_two_pow]
        constructor
        · intro z y
          rw [Bool.or_eq_true] at y
          rcases y with y | y
          · exact z 0 (by rw [w6]; exact y) (by rw [e1]; simp)
          · exact z (st j + 1) (by rw [w6]; exact y) (by rw [e1]; simp)
        · intro z i y1 y2
          rw [e1] at y2
          rw [w6] at y1
          apply z
          simp only [Bool.or_eq_true, decide_eq_true_eq] at y2 ⊢
          rcases y2 with rfl | rfl
          · exact Or.inl y1
          · exact Or.inr y1
      rw [nI_1]
      refine ⟨fun q => ih (j + 1) a (by omega) ha (fun w => ?_), fun q => ?_⟩
      · rw [k1] at q
        rw [e w]
        by_cases z : w = j
        · subst z
          have : (akS n c 0 || akS n c (st w + 1)) = false := by simpa using q
          simp [this]
        · have : decide (w < j + 1) = decide (w < j) := by simp; omega
          rw [this]
      · rw [k1, Classical.not_not] at q
        rw [nI_1shl (by omega), nI_or]
        have h2 : (2 : Nat) ^ j < 256 := Nat.lt_of_lt_of_le (Nat.pow_lt_pow_right (by decide) (show j < 8 by omega)) (by decide)
        refine ih (j + 1) _ (by omega) (Nat.or_lt_two_pow (n := 8) ha h2) (fun w => ?_)
        rw [tb_or2, e w]
        by_cases z : w = j
        · subst z; simp [q]
        · have h3 : decide (w < j + 1) = decide (w < j) := by simp; omega
          have h4 : decide (j = w) = false := by simp; omega
          rw [h3, h4, Bool.or_false]
  refine nX10_looksOf _ _ _ _ _ (bX10_looksOf_0 _ _ _ _ _ ⟨b1, ?_⟩)
  rw [w1]
  exact L V 0 bv (by omega) w2 (fun w => by rw [w3]; simp)
/-- what is laid of all rows that can be: digits d r of row r -/
def sdR (h : zH) (sc N V : Nat) (d : Nat → Nat → Nat) : Prop := ∀ r, r < 4 ^ V → cbB N V r = true → aI h sc r = nI (en 4 V (d r)) ∧ ∀ v, v < V → d r v ≤ 3
theorem ne_rcl {sc k : Nat} (h : (16 ≤ sc ∧ sc ≤ 18) ∨ 126 ≤ sc) (hk : k < 16 ∨ (18 < k ∧ k < 126)) : k ≠ sc := by omega
theorem s5_hearOfAll {own n u V0 sc : Nat} {R : List Nat} {c : Nat → Nat × Nat × Nat} {d : Nat → Nat → Nat} (T : cT h t N V st wt) (S : cSp h 13) (o12 : oK h 12 5) (r0 : gR h 12 0 = some 13) (r2 : gR h 12 2 = some sc) (ks : iK h sc 0) (hsc : (16 ≤ sc ∧ sc ≤ 18) ∨ 126 ≤ sc) (hsz : 4 ^ V ≤ aN h sc) (hsz2 : aN h sc ≤ 65536) (hR : sc ∈ R)
    (ho : own < V) (hV0 : V0 ≤ V) (B : cB h R bl n c u) (O : okC V0 N own n c) (D : sdR h sc N V d)
    (H : ∀ h', fr [14, sc] [(13, 1)] h h' → sdR h' sc N V (fun r => ud (d r) own (sayF V N st wt (dg 4 V r) own n c)) → Q none h') : zC mX5_hearOfAll [.ref 12, .int (nI own), .ref bl, .int (nI (4 ^ V)), .ref t] h Q := by
  have hV := T.V8
  have hN := T.N3
  have p4 : 4 ^ V ≤ 65536 := Nat.le_trans (Nat.pow_le_pow_right (by decide) hV) (by decide)
  have X0 : ∀ k, k ∈ [14, sc] → (k < 126 ∧ k ≠ 35) ∨ k ∈ R := fun k hk => by
    simp only [List.mem_cons, List.not_mem_nil, or_false] at hk
    rcases hk with rfl | rfl
    · exact Or.inl (by decide)
    · exact Or.inr hR
  have Y0 : ∀ q : Nat × Nat, q ∈ [(13, 1)] → q.1 < 126 ∧ q.1 ≠ 34 := fun q hq => by
    simp only [List.mem_cons, List.not_mem_nil, or_false] at hq
    subst hq; decide
  have TX : ∀ k : Nat, (k = 26 ∨ k = 70 ∨ k = 77) → okT [14, sc] [(13, 1)] k = true := fun k hk => by
    simp only [okT, List.all_cons, List.all_nil, and_true, Bool.and_eq_true, Bool.not_eq_true', List.contains_eq_mem, decide_eq_false_iff_not, List.mem_cons, List.not_mem_nil, or_false, Bool.and_true]
    rcases hk with rfl | rfl | rfl <;> simp <;> omega
  have TX3 : (okT [14, sc] [(13, 1)] 26 && (okT [14, sc] [(13, 1)] 70 && okT [14, sc] [(13, 1)] 77)) = true := by
    rw [TX 26 (by simp), TX 70 (by simp), TX 77 (by simp)]; rfl
  refine nX5_hearOfAll _ _ _ _ _ _ _ (bX5_hearOfAll_0 _ _ _ _ _ _ _ ⟨T.o, s10_looksOf T ho B (fun L hL tL => ⟨_, rfl, T.o, s10_bitsInRows T (by omega) ⟨_, rfl, T.o, ?_⟩⟩)⟩)
  have h2o : (2 : Nat) ^ own < 2 ^ 31 := Nat.pow_lt_pow_right (by decide) (by omega)
  rw [nI_1shl (by omega)]
  refine s10_bitsInRows T h2o ⟨_, rfl, ?_⟩
  generalize hlo : en 4 V (fun v => if L.testBit v = true then 3 else 0) = lo
  generalize hoo : en 4 V (fun v => if (2 ^ own).testBit v = true then 3 else 0) = oo
  have hoo' : oo = en 4 V (fun v => if v = own then 3 else 0) := by
    rw [← hoo]
    refine en_congr (fun v _ => ?_)
    rw [Nat.testBit_two_pow]
    by_cases z : v = own
    · simp [z]
    · have : ¬ own = v := fun y => z y.symm
      simp [z, this]
  have main : ∀ (k r : Nat) (h0 : zH), r + k = 4 ^ V → fr [14, sc] [(13, 1)] h h0 → (∀ r', r' < 4 ^ V → cbB N V r' = true → aI h0 sc r' = if r' < r then nI (en 4 V (ud (d r') own (sayF V N st wt (dg 4 V r') own n c))) else aI h sc r') → zX mX5_hearOfAll 27 [.ref 12, .int (nI own), .ref bl, .int (nI (4 ^ V)), .ref t, .int (nI lo), .int (nI oo), .int (nI r), .float 0, .float 0] [] h0 Q := by
    intro k
    induction k with
    | zero =>
      intro r h0 hr F e
      have : r = 4 ^ V := by omega
      subst this
      refine bX5_hearOfAll_27 _ _ _ _ _ _ _ _ _ _ (br_t (nI_le (Nat.le_refl _) (by omega)) (H h0 F (fun r' hr' hc => ?_)))
      have := e r' hr' hc
      rw [if_pos hr'] at this
      refine ⟨this, fun v hv => ?_⟩
      show ud (d r') own (sayF V N st wt (dg 4 V r') own n c) v ≤ 3
      unfold ud
      split
      · exact Nat.le_trans (sayF_le (V' := V0) (fun v hv => cbB_iff.mp hc v (by omega)) O) (by omega)
      · exact (D r' hr' hc).2 v hv
    | succ k ih =>
      intro r h0 hr F e
      have T0 := T.fr F TX3
      have S0 := S.fr F (by decide)
      have B0 := B.fr F X0 Y0
      have ks0 := F.ik ks
      have n0 : aN h0 sc = aN h sc := F.n sc
      have o0 := F.o o12
      have r20 : gR h0 12 2 = some sc := by rw [F.gr (by decide)]; exact r2
      refine bX5_hearOfAll_27 _ _ _ _ _ _ _ _ _ _ (br_f (nI_ge (by omega) (by omega)) ⟨T0.o, s10_canBe T0 (by omega) (fun hc => ⟨_, rfl, br_f (by decide +kernel) ?_⟩) (fun hc => ⟨_, rfl, br_t rfl ?_⟩)⟩)
      · have hcb : cbB N V r = true := cbB_iff.mpr hc
        have er : en 4 V (dg 4 V r) = r := en_dg (by decide) (by omega)
        have hm3 : ∀ v, v < V → dg 4 V r v ≤ 3 := fun v hv => Nat.le_trans (hc v hv) hN
        have d4 : ∀ v, v < V → dg 4 V r v < 4 := fun v hv => Nat.lt_succ_of_le (hm3 v hv)
        have hsay : sayF V N st wt (dg 4 V r) own n c ≤ N := sayF_le (V' := V0) (fun v hv => hc v (by omega)) O
        have l3 : ∀ v, v < V → (if L.testBit v = true then 3 else 0) < 4 := fun v _ => by split <;> omega
        have eal : r &&& lo = en 4 V (fun v => if lkB V st own n c v = true then dg 4 V r v else 0) := by
          conv => lhs; rw [← er, ← hlo]
          rw [en4_and d4 l3]
          refine en_congr (fun v hv => ?_)
          rw [tL v]
          by_cases z : lkB V st own n c v = true
          · rw [if_pos z, if_pos z, dd3 _ (d4 v hv)]
          · rw [if_neg z, if_neg z, Nat.and_zero]
        -- the row's new digits
        have fin : ∀ h1 : zH, fr [14, sc] [(13, 1)] h0 h1 → aI h1 sc = aI h0 sc → zX mX5_hearOfAll 92 [.ref 12, .int (nI own), .ref bl, .int (nI (4 ^ V)), .ref t, .int (nI lo), .int (nI oo), .int (nI r), .float 0, .float 0] [.int (nI (en 4 V (ud (fun _ => 0) own (sayF V N st wt (dg 4 V r) own n c))))] h1 Q := fun h1 F1 e1 => by
          have o1 := F1.o o0
          have r21 : gR h1 12 2 = some sc := by rw [F1.gr (by decide)]; exact r20
          have ks1 := F1.ik ks0
          have n1 : aN h1 sc = aN h sc := (F1.n sc).trans n0
          refine bX5_hearOfAll_92 _ _ _ _ _ _ _ _ _ _ _ ⟨o1, _, r21, s11_atN ks1 n1 (by omega) (by omega) ⟨_, rfl, s11_putN ks1 n1 (by omega) (by omega) (fun h2 e2 => ⟨rfl, ?_⟩)⟩⟩
          have dr := D r (by omega) hcb
          have f3 : ∀ v, v < V → d r v < 4 := fun v hv => Nat.lt_succ_of_le (dr.2 v hv)
          have f1 : ∀ w, w < V → (if w = own then 3 else 0) < 4 := fun w _ => by split <;> omega
          have f4 : ∀ w, w < V → d r w &&& (if w = own then 3 else 0) < 4 := fun w hw => Nat.and_lt_two_pow (n := 2) _ (f1 w hw)
          have f5 : ∀ w, w < V → ud (fun _ => 0) own (sayF V N st wt (dg 4 V r) own n c) w < 4 := fun w _ => by
            simp only [ud]; split <;> omega
          rw [e1, e r (by omega) hcb, if_neg (Nat.lt_irrefl _), dr.1, hoo', nI_andn, nI_or, en4_and f3 f1, en4_xor f3 f4, en4_or (fun w hw => Nat.xor_lt_two_pow (n := 2) (f3 w hw) (f4 w hw)) f5] at e2
          rw [en_congr (m' := ud (d r) own (sayF V N st wt (dg 4 V r) own n c)) (fun w hw => by
            unfold ud
            by_cases z : w = own
            · simp only [if_pos z, dd4 _ (f3 w hw), Nat.zero_or]
            · simp only [if_neg z, Nat.and_zero, Nat.xor_zero, Nat.or_zero])] at e2
          rw [nI_1]
          refine ih (r + 1) h2 (by omega) ((F.tr F1).tr (by rw [e2]; exact fr_pI (by simp))) (fun r' hr' hc' => ?_)
          by_cases z : r' = r
          · subst z
            rw [if_pos (Nat.lt_succ_self _), e2, aI_pI_s ⟨_, ks1⟩]
          · rw [e2, aI_pI_n (Or.inr z), e1, e r' hr' hc']
            by_cases z2 : r' < r
            · rw [if_pos z2, if_pos (by omega)]
            · rw [if_neg z2, if_neg (by omega)]
        refine ⟨fun q => ?_, fun q => ?_⟩
        · refine ⟨o0, _, by rw [F.gr (by decide)]; exact r0, S0.2.1, ?_⟩
          conv => arg 2; rw [← er]
          refine s6_hear S0 T0 hm3 ho hV0 B0 O (fun h1 F1 => ⟨_, rfl, ?_⟩)
          have F1' : fr [14, sc] [(13, 1)] h0 h1 := F1.mo (fun k hk => by simp at hk ⊢; exact Or.inl hk) (fun k hk => hk)
          have T1 := T0.fr F1' TX3
          refine ⟨T1.o, ?_⟩
          have w0 := s10_withMark (mk := fun _ => 0) (Q := fun r0 h13 => ∃ x14 : Int32, r0 = some (.int x14) ∧ (zX mX5_hearOfAll 92 [.ref 12, .int (nI own), .ref bl, .int (nI (4 ^ V)), .ref t, .int (nI lo), .int (nI oo), .int (nI r), .float 0, .float 0] [.int x14] h13 Q)) T1 ho (fun _ _ => Nat.zero_le _) (Nat.le_trans hsay hN) ⟨_, rfl, fin h1 F1' (F1.i (by simp; omega))⟩
          rw [en_0] at w0
          exact w0
        · rw [nI_and, nI_eq (by have := Nat.and_le_left (n := r) (m := lo); omega) (by omega)] at q
          have hlt : r &&& lo < r := Nat.lt_of_le_of_ne Nat.and_le_left q
          rw [nI_and]
          refine ⟨o0, _, r20, s11_atN ks0 n0 (by omega) (by omega) ⟨_, rfl, ?_⟩⟩
          have dal : ∀ v, v < V → dg 4 V (r &&& lo) v = if lkB V st own n c v = true then dg 4 V r v else 0 := fun v hv => by
            rw [eal]
            exact dg_en (fun i hi => by split; exact d4 i hi; omega) v hv
          have hcal : cbB N V (r &&& lo) = true := cbB_iff.mpr (fun v hv => by
            rw [dal v hv]; split; exact hc v hv; omega)
          have eal2 := e (r &&& lo) (by omega) hcal
          rw [if_pos hlt] at eal2
          have f1 : ∀ w, w < V → (if w = own then 3 else 0) < 4 := fun w _ => by split <;> omega
          have s3 : sayF V N st wt (dg 4 V (r &&& lo)) own n c ≤ N := sayF_le (V' := V0) (fun v hv => cbB_iff.mp hcal v (by omega)) O
          have f6 : ∀ w, w < V → ud (d (r &&& lo)) own (sayF V N st wt (dg 4 V (r &&& lo)) own n c) w < 4 := fun w hw => by
            have := (D _ (by omega : r &&& lo < 4 ^ V) hcal).2 w hw
            unfold ud; split <;> omega
          have e8 : nI (en 4 V (ud (d (r &&& lo)) own (sayF V N st wt (dg 4 V (r &&& lo)) own n c))) &&& nI oo = nI (en 4 V (ud (fun _ => 0) own (sayF V N st wt (dg 4 V r) own n c))) := by
            rw [hoo', nI_and, en4_and f6 f1]
            congr 1
            refine en_congr (fun w hw => ?_)
            simp only [ud]
            by_cases z : w = own
            · simp only [if_pos z]
              rw [dd3 _ (by omega : sayF V N st wt (dg 4 V (r &&& lo)) own n c < 4)]
              exact sayF_dep hV0 O (fun v hv hl => by rw [dal v hv, if_pos hl])
            · simp only [if_neg z, Nat.and_zero]
          rw [eal2, e8]
          exact fin h0 fr.rf rfl
      · rw [nI_1]
        refine ih (r + 1) h0 (by omega) F (fun r' hr' hc' => ?_)
        rw [e r' hr' hc']
        by_cases z : r' = r
        · subst z; exact absurd (cbB_iff.mp hc') hc
        · by_cases z2 : r' < r
          · rw [if_pos z2, if_pos (by omega)]
          · rw [if_neg z2, if_neg (by omega)]
  exact main (4 ^ V) 0 h (by omega) fr.rf (fun r' _ _ => by rw [if_neg (Nat.not_lt_zero _)])
end

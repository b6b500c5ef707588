/-! ===== the class: orders ===== -/
section
variable {h h' : zH} {Q : Option Value → zH → Prop} {X : List Nat} {Y : List (Nat × Nat)} {p : Nat → Nat} {V N : Nat} {f : (Nat → Nat) → Nat → Nat}
def cOl (h : zH) : Prop := oK h 19 3 ∧ gR h 19 0 = some 20 ∧ iK h 20 0 ∧ aN h 20 = 8
theorem cOl.fr (L : cOl h) (F : fr X Y h h') (hY : (19, 0) ∉ Y) : cOl h' := ⟨F.o L.1, by rw [F.gr hY]; exact L.2.1, F.ik L.2.2.1, by rw [F.n]; exact L.2.2.2⟩
def cTu (h : zH) (V : Nat) (p : Nat → Nat) : Prop := ∀ i, i < V → aI h 20 i = nI (p i)
theorem s3_swap {a c : Nat} (L : cOl h) (A : cTu h V p) (hV : V ≤ 8) (ha : a < V) (hc : c < V) (H : ∀ h', fr [20] [] h h' → cTu h' V (swp p a c) → Q none h') : zC mX3_swap [.ref 19, .int (nI a), .int (nI c)] h Q := by
  obtain ⟨o, r, k, n⟩ := L
  refine nX3_swap _ _ _ _ _ (bX3_swap_0 _ _ _ _ _ ⟨o, _, r, s11_atN k n (by omega) (by decide) ⟨_, rfl, o, _, r, s11_atN k n (by omega) (by decide) ⟨_, rfl, s11_putN k n (by omega) (by decide) (fun h9 e9 => ⟨rfl, ?_⟩)⟩⟩⟩)
  have F9 : fr [20] [] h h9 := by rw [e9]; exact fr_pI (by simp)
  refine ⟨F9.o o, _, by rw [F9.gr (by simp)]; exact r, s11_putN (n := 8) (F9.ik k) (by rw [F9.n]; exact n) (by omega) (by decide) (fun h12 e12 => ⟨rfl, ?_⟩)⟩
  refine H h12 (F9.tr (by rw [e12]; exact fr_pI (by simp))) (fun i hi => ?_)
  rw [e12, swp_at]
  by_cases z : i = c
  · rw [if_pos z, z, aI_pI_s ⟨_, F9.ik k⟩]; exact A a ha
  · rw [if_neg z, aI_pI_n (Or.inr z), e9]
    by_cases w : i = a
    · rw [if_pos w, w, aI_pI_s ⟨_, k⟩]; exact A c hc
    · rw [if_neg w, aI_pI_n (Or.inr w)]; exact A i hi
theorem s3_goOn (L : cOl h) (A : cTu h V p) (G : gI h 19 1 = nI V) (hV : V ≤ 8) (P : okP V p) (H : ∀ h', fr [20] [] h h' → cTu h' V ((nxF V p).getD p) → Q none h') : zC mX3_goOn [.ref 19] h Q := by
  have rev : ∀ (d a c : Nat) (h0 : zH) (p : Nat → Nat), c < V → c ≤ a + 2 * d → fr [20] [] h h0 → cTu h0 V p → (∀ h', fr [20] [] h h' → cTu h' V (rvF d a c p) → Q none h') → a ≤ V → zX mX3_goOn 98 [.ref 19, .float 0, .float 0, .int (nI a), .int (nI c)] [] h0 Q := by
    intro d
    induction d with
    | zero =>
      intro a c h0 p hc hl F A H ha
      exact bX3_goOn_98 _ _ _ _ _ (br_t (nI_le (by omega) (by omega)) (H h0 F A))
    | succ d ih =>
      intro a c h0 p hc hl F A H ha
      have L0 := L.fr F (by simp)
      refine bX3_goOn_98 _ _ _ _ _ ?_
      rw [nI_leI (by omega) (by omega)]
      refine ⟨fun q => H h0 F (by rw [rvF, if_neg (by omega)]; exact A), fun q => ⟨L0.1, s3_swap L0 A hV (by omega) hc (fun h3 F3 A3 => ⟨rfl, ?_⟩)⟩⟩
      have : nI c + (-1) = nI (c - 1) := by
        obtain ⟨w, rfl⟩ : ∃ w, c = w + 1 := ⟨c - 1, by omega⟩
        rw [nI_dn]; rfl
      rw [nI_1, this]
      exact ih (a + 1) (c - 1) h3 _ (by omega) (by omega) (F.tr F3) A3 (fun h' F' A' => H h' F' (by rw [rvF, if_pos (by omega)]; exact A')) (by omega)
  obtain ⟨o, r, k, n⟩ := L
  have L50 : ∀ (l : Nat), loF p (V - 1) = some l → ∀ (j : Nat), l < j → j ≤ V - 1 → hiF p (p l) j = hiF p (p l) (V - 1) → zX mX3_goOn 50 [.ref 19, .int (nI l), .int (nI j), .float 0, .float 0] [] h Q := by
    intro l hl j
    obtain ⟨l1, l2⟩ := lo_lt hl
    induction j with
    | zero => intro z; omega
    | succ j ih =>
      intro hj hj2 e
      have p1 := P.1 l (by omega)
      have p2 := P.1 (j + 1) (by omega)
      rw [hiF] at e
      refine bX3_goOn_50 _ _ _ _ _ (br_f (nI_ge hj (by omega)) ⟨o, _, r, s11_atN k n (by omega) (by decide) ⟨_, rfl, o, _, r, s11_atN k n (by omega) (by decide) ⟨_, rfl, ?_⟩⟩⟩)
      rw [A l (by omega), A (j + 1) (by omega), nI_leI (by omega) (by omega)]
      refine ⟨fun q => ?_, fun q => ?_⟩
      · rw [if_pos q] at e
        refine bX3_goOn_80 _ _ _ _ _ ⟨o, s3_swap ⟨o, r, k, n⟩ A hV (by omega) (by omega) (fun h2 F2 A2 => ⟨rfl, F2.o o, ?_⟩)⟩
        obtain ⟨V', rfl⟩ : ∃ V', V = V' + 1 := ⟨V - 1, by omega⟩
        rw [F2.gi (by simp), G, nI_pred, nI_1]
        refine rev 8 (l + 1) V' h2 _ (by omega) (by omega) F2 A2 (fun h' F' A' => H h' F' ?_) (by omega)
        have : nxF (V' + 1) p = some (rvF 8 (l + 1) V' (swp p l (j + 1))) := by
          unfold nxF
          simp only [hl]
          rw [← e]; rfl
        rw [this]; exact A'
      · rw [if_neg q] at e
        rw [nI_dn]
        refine ih ?_ (by omega) e
        rcases Nat.lt_or_ge l j with z | z
        · exact z
        · have : l = j := by omega
          subst this; exact absurd l2 q
  have none' : loF p (V - 1) = none → Q none h := fun e => H h fr.rf (by
    have : nxF V p = none := by unfold nxF; rw [e]
    rw [this]; exact A)
  have L7 : ∀ (k' : Nat), k' ≤ V - 1 → 0 < V → loF p k' = loF p (V - 1) → zX mX3_goOn 7 [.ref 19, .int (nI k' + (-1)), .float 0, .float 0, .float 0] [] h Q := by
    intro k'
    induction k' with
    | zero =>
      intro hk h0 e
      exact bX3_goOn_7 _ _ _ _ (br_t nI_d0 (br_f (by decide +kernel) (none' (by rw [← e]; rfl))))
    | succ k' ih =>
      intro hk h0 e
      rw [loF] at e
      have p1 := P.1 k' (by omega)
      have p2 := P.1 (k' + 1) (by omega)
      rw [nI_dn]
      refine bX3_goOn_7 _ _ _ _ (br_f (nI_pos (by omega)) ⟨o, _, r, s11_atN k n (by omega) (by decide) ⟨_, rfl, o, _, r, ?_⟩⟩)
      rw [nI_1]
      refine s11_atN k n (by omega) (by decide) ⟨_, rfl, ?_⟩
      rw [A k' (by omega), A (k' + 1) (by omega), nI_leI (by omega) (by omega)]
      refine ⟨fun q => br_t (nI_pos' (by omega)) ⟨o, ?_⟩, fun q => ?_⟩
      · rw [if_pos q] at e
        obtain ⟨V', rfl⟩ : ∃ V', V = V' + 1 := ⟨V - 1, by omega⟩
        rw [G, nI_pred]
        exact L50 k' e.symm V' (by omega) (by omega) rfl
      · rw [if_neg q] at e
        exact ih (by omega) h0 e
  refine nX3_goOn _ _ _ (bX3_goOn_0 _ _ _ ⟨o, ?_⟩)
  rw [G]
  cases V with
  | zero => exact bX3_goOn_7 _ _ _ _ (br_t (by decide +kernel) (br_f (by decide +kernel) (none' rfl)))
  | succ V =>
    have e : nI (V + 1) - 2 = nI V + (-1) := by
      rw [show (2 : Int32) = 1 + 1 from rfl, ← Int32.sub_sub, nI_pred, nI_s1]
    rw [e]
    exact L7 V (Nat.le_refl _) (by omega) rfl
theorem s3_digits (L : cOl h) (A : cTu h V p) (G : gI h 19 1 = nI V) (hV : V ≤ 8) (H : Q (some (.int (nI (dgF p V)))) h) : zC mX3_digits [.ref 19] h Q := by
  obtain ⟨o, r, k, n⟩ := L
  have go : ∀ (d i : Nat), i + d = V → zX mX3_digits 4 [.ref 19, .int (nI (dgF p i)), .int (nI i)] [] h Q := by
    intro d
    induction d with
    | zero =>
      intro i hi
      have : i = V := by omega
      subst this
      exact bX3_digits_4 _ _ _ _ _ ⟨o, br_t (by rw [G]; exact nI_le (Nat.le_refl _) (by omega)) H⟩
    | succ d ih =>
      intro i hi
      refine bX3_digits_4 _ _ _ _ _ ⟨o, br_f (by rw [G]; exact nI_ge (by omega) (by omega)) ⟨_, r, s11_atN k n (by omega) (by decide) ⟨_, rfl, ?_⟩⟩⟩
      rw [A i (by omega), nI_lit 10, nI_mul, nI_add, nI_1, nI_1, Nat.mul_comm]
      exact ih (i + 1) (by omega)
  exact nX3_digits _ _ _ (bX3_digits_0 _ _ _ (go V 0 (by omega)))
theorem neg10 {x : Int32} (hx : x < 0) : (x - x / (10 : Int32) * (10 : Int32)) - (1 : Int32) < 0 := by
  have b1 := Int32.le_toInt x
  have e10 : (10 : Int32).toInt = 10 := by decide
  have e1 : (1 : Int32).toInt = 1 := by decide
  have e0 : (0 : Int32).toInt = 0 := by decide
  have hx' : x.toInt < 0 := by have := Int32.lt_iff_toInt_lt.mp hx; rw [e0] at this; exact this
  have d1 : (x / (10 : Int32)).toInt = x.toInt.tdiv 10 := by rw [Int32.toInt_div_of_ne_right _ _ (by decide), e10]
  have t1 : x.toInt.tdiv 10 * 10 + x.toInt.tmod 10 = x.toInt := by rw [Int.mul_comm]; exact Int.mul_tdiv_add_tmod x.toInt 10
  have t2 : x.toInt.tmod 10 ≤ 0 := by
    have := Int.tmod_nonneg (a := -x.toInt) 10 (by omega)
    rw [Int.neg_tmod] at this; omega
  have t3 : -10 < x.toInt.tmod 10 := by
    have := Int.tmod_lt_of_pos (-x.toInt) (b := 10) (by decide)
    rw [Int.neg_tmod] at this; omega
  rw [Int32.lt_iff_toInt_lt, Int32.toInt_sub, Int32.toInt_sub, Int32.toInt_mul, d1, e10, e1, e0]
  generalize x.toInt.tdiv 10 = dd at *
  generalize x.toInt.tmod 10 = mm at *
  rw [Int.bmod_eq_of_le_mul_two (x := dd * 10) (by omega) (by omega), Int.bmod_eq_of_le_mul_two (x := x.toInt - dd * 10) (by omega) (by omega), Int.bmod_eq_of_le_mul_two (by omega) (by omega)]
  omega
theorem s3_take {x : Int32} (L : cOl h) (hV : V ≤ 8) (H1 : ∀ n h', x = nI n → n < 2 ^ 31 → mO n V V 0 0 = true → fr [20] [(19, 1)] h h' → gI h' 19 1 = nI V → cTu h' V (ordF n V) → Q (some (.int 1)) h')
    (H0 : ∀ h', fr [20] [(19, 1)] h h' → (x < 0 ∨ ∃ n, x = nI n ∧ n < 2 ^ 31 ∧ mO n V V 0 0 = false) → Q (some (.int 0)) h') : zC mX3_take [.ref 19, .int x, .int (nI V)] h Q := by
  have p2 : 2 ^ V ≤ 256 := Nat.le_trans (Nat.pow_le_pow_right (by decide) hV) (by decide)
  have p20 := Nat.two_pow_pos V
  refine nX3_take _ _ _ _ _ (bX3_take_0 _ _ _ _ _ ⟨L.1, fun h2 e2 => ?_⟩)
  have F2 : fr [20] [(19, 1)] h h2 := by rw [e2]; exact fr_pF (by simp) L.1 rfl rfl
  have G2 : gI h2 19 1 = nI V := by rw [e2]; exact gI_pF_s L.1 (by decide)
  rw [nI_s1]
  by_cases hx : x < 0
  · cases V with
    | zero =>
      refine bX3_take_15 _ _ _ _ _ _ _ (br_t nI_d0 (br_f (fun z => ?_) (H0 h2 F2 (Or.inl hx))))
      rw [z] at hx; exact absurd hx (by decide)
    | succ V =>
      rw [nI_dn]
      exact bX3_take_15 _ _ _ _ _ _ _ (br_f (nI_pos (by omega)) ⟨by decide +kernel, by decide +kernel, br_t (neg10 hx) (H0 h2 F2 (Or.inl hx))⟩)
  · obtain ⟨n, n31, rfl⟩ := nI_of hx
    simp only [mO_eq hV] at H1 H0
    have go : ∀ (k j met : Nat) (h0 : zH), j + k = V → met < 2 ^ V → fr [20] [(19, 1)] h h0 → gI h0 19 1 = nI V → (∀ i, V - j ≤ i → i < V → aI h0 20 i = nI (ordF n V i)) → cO n V k j met = cO n V V 0 0 → zX mX3_take 15 [.ref 19, .float 0, .int (nI V), .int (nI (n / 10 ^ j)), .int (nI met), .int (nI k + (-1)), .float 0] [] h0 Q := by
      intro k
      induction k with
      | zero =>
        intro j met h0 hj hm F G A e
        have : j = V := by omega
        subst this
        have nd : n / 10 ^ j < 2 ^ 31 := Nat.lt_of_le_of_lt (Nat.div_le_self _ _) n31
        have hev : nI (2 ^ j) - (1 : Int32) = nI (2 ^ j - 1) := by
          obtain ⟨q, hq⟩ : ∃ q, 2 ^ j = q + 1 := ⟨2 ^ j - 1, by omega⟩
          rw [hq, nI_pred]; rfl
        rw [cO] at e
        refine bX3_take_15 _ _ _ _ _ _ _ (br_t nI_d0 ?_)
        rw [← nI_0, nI_eq nd (by decide), nI_1shl (by omega), hev, nI_eq (by omega) (by omega)]
        refine ⟨fun q => ⟨fun q2 => H1 n h0 rfl n31 (by rw [← e, decide_eq_true q, decide_eq_true q2]; rfl) F G (fun i hi => A i (by omega) hi), fun q2 => H0 h0 F (Or.inr ⟨n, rfl, n31, by rw [← e, decide_eq_false q2, Bool.and_false]⟩)⟩, fun q => H0 h0 F (Or.inr ⟨n, rfl, n31, by rw [← e, decide_eq_false q, Bool.false_and]⟩)⟩
      | succ k ih =>
        intro j met h0 hj hm F G A e
        have nd : n / 10 ^ j < 2 ^ 31 := Nat.lt_of_le_of_lt (Nat.div_le_self _ _) n31
        have L0 := L.fr F (by simp)
        have t10 : nI (n / 10 ^ j) - nI (n / 10 ^ j) / (10 : Int32) * (10 : Int32) = nI (dgT n j) := pk_rem (d := 10) nd (by decide) (by decide)
        have q10 : nI (n / 10 ^ j) / (10 : Int32) = nI (n / 10 ^ (j + 1)) := by
          rw [Nat.pow_succ, ← Nat.div_div_eq_div_mul]; exact pk_div (d := 10) nd (by decide) (by decide)
        have d9 : dgT n j < 10 := Nat.mod_lt _ (by decide)
        rw [nI_dn]
        refine bX3_take_15 _ _ _ _ _ _ _ (br_f (nI_pos (by omega)) ⟨by decide +kernel, by decide +kernel, ?_⟩)
        rw [t10, q10, nI_s1]
        rw [cO] at e
        refine ⟨fun q => ?_, fun q => ?_⟩
        · rw [nI_dlt (by omega)] at q
          refine H0 h0 F (Or.inr ⟨n, rfl, n31, ?_⟩)
          rw [← e, decide_eq_false (by omega)]; rfl
        · rw [nI_dlt (by omega)] at q
          obtain ⟨v, hv⟩ : ∃ v, dgT n j = v + 1 := ⟨dgT n j - 1, by omega⟩
          rw [hv, nI_dn, nI_ltI (by omega) (by omega)]
          refine ⟨fun q2 => ⟨L0.1, _, L0.2.1, s11_putN L0.2.2.1 L0.2.2.2 (by omega) (by decide) (fun h10 e10 => ⟨rfl, ?_⟩)⟩, fun q2 => ?_⟩
          · have c1 : (decide (1 ≤ dgT n j) && decide (dgT n j ≤ V)) = true := by rw [hv, decide_eq_true (by omega), decide_eq_true (by omega)]; rfl
            rw [c1, hv, Nat.add_sub_cancel, Bool.true_and] at e
            have F10 : fr [20] [(19, 1)] h0 h10 := by rw [e10]; exact fr_pI (by simp)
            rw [nI_1shl (by omega), nI_or]
            refine ih (j + 1) _ h10 (by omega) (or_lt hm (by omega)) (F.tr F10) (by rw [e10, gI_pI]; exact G) (fun i i1 i2 => ?_) e
            by_cases z : i = k
            · rw [e10, z, aI_pI_s ⟨_, L0.2.2.1⟩, ordF, show V - 1 - k = j by omega, hv]; rfl
            · rw [e10, aI_pI_n (Or.inr z)]; exact A i (by omega) i2
          · refine H0 h0 F (Or.inr ⟨n, rfl, n31, ?_⟩)
            rw [← e, decide_eq_false (show ¬ dgT n j ≤ V by omega), Bool.and_false]; rfl
    have := go V 0 0 h2 (by omega) p20 F2 G2 (fun i h1 h2 => by omega) rfl
    rw [Nat.pow_zero, Nat.div_one] at this
    exact this
end

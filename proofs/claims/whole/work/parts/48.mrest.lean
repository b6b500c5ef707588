/-! ===== the reference: rest, soonest ===== -/
section
variable {h h' : zH} {b N ns V xv : Nat} {st wt mm : Nat → Nat} {Q : Option Value → zH → Prop} {X : List Nat} {Y : List (Nat × Nat)} {f : (Nat → Nat) → Nat → Nat} {ord : Nat → Nat}
def mOr (h : zH) (V : Nat) (ord : Nat → Nat) : Prop := ∀ i, i < V → aI h 112 i = nI (ord i)
theorem mOr.fr (A : mOr h V ord) (F : fr X Y h h') (hX : 112 ∉ X) : mOr h' V ord := fun i hi => by rw [F.i hX]; exact A i hi
def mUn (h : zH) (N V : Nat) : Prop := ∀ v, v < V → aI h 113 v = nI ((N + 1) ^ (V - 1 - v))
theorem mUn.fr (A : mUn h N V) (F : fr X Y h h') (hX : 113 ∉ X) : mUn h' N V := fun i hi => by rw [F.i hX]; exact A i hi
theorem s12_layUnits (M : mT h b N ns V st wt) (H : ∀ h', fr [113] [] h h' → mUn h' N V → Q none h') : zC mX12_layUnits [.ref 84] h Q := by
  have hV := M.V8
  have hN := M.N3
  have L : ∀ (j : Nat) (h0 : zH), j ≤ V → fr [113] [] h h0 → (∀ v, j ≤ v → v < V → aI h0 113 v = nI ((N + 1) ^ (V - 1 - v))) → zX mX12_layUnits 9 [.ref 84, .int (nI ((N + 1) ^ (V - j))), .int (nI j + (-1))] [] h0 Q := by
    intro j
    induction j with
    | zero =>
      intro h0 hj F A
      exact bX12_layUnits_9 _ _ _ _ _ (br_t nI_d0 (H h0 F (fun v hv => A v (Nat.zero_le _) hv)))
    | succ j ih =>
      intro h0 hj F A
      have M0 := M.fr F (by decide)
      rw [nI_dn]
      refine bX12_layUnits_9 _ _ _ _ _ (br_f (nI_pos (by omega)) ⟨M0.l.o, _, M0.l.r47, M0.l.k47, by rw [M0.l.n47]; exact vp_in_nI (by omega) (by decide), fun h6 e6 => ?_⟩)
      rw [nI_clamp (by omega)] at e6
      have F6 : fr [113] [] h0 h6 := by rw [e6]; exact fr_pI (by simp)
      have M6 := M0.fr F6 (by decide)
      refine s12_nameMany M6 ⟨_, rfl, ?_⟩
      rw [nI_1, nI_mul, ← Nat.pow_succ, show (V - (j + 1)).succ = V - j by omega]
      refine ih h6 (by omega) (F.tr F6) (fun v v1 v2 => ?_)
      by_cases z : v = j
      · rw [e6, z, aI_pI_s ⟨_, M0.l.k47⟩, show V - (j + 1) = V - 1 - j by omega]
      · rw [e6, aI_pI_n (Or.inr z)]; exact A v (by omega) v2
  refine nX12_layUnits _ _ _ (bX12_layUnits_0 _ _ _ ⟨M.l.o, s12_voterMany M ⟨_, rfl, ?_⟩⟩)
  have := L V h (Nat.le_refl _) fr.rf (fun v h1 h2 => by omega)
  rw [Nat.sub_self, Nat.pow_zero] at this
  rw [nI_s1]
  exact this
theorem en_step {b V : Nat} {m : Nat → Nat} {k x : Nat} (hk : k < V) : nI (en b V m) + (nI x - nI (m k)) * nI (b ^ (V - 1 - k)) = nI (en b V (ud m k x)) := by
  have e := en_ud (b := b) (m := m) (x := x) hk
  have e2 : nI (en b V (ud m k x)) + nI (m k * b ^ (V - 1 - k)) = nI (en b V m) + nI (x * b ^ (V - 1 - k)) := by rw [nI_add, nI_add, e]
  have e3 : (nI x - nI (m k)) * nI (b ^ (V - 1 - k)) = nI (x * b ^ (V - 1 - k)) - nI (m k * b ^ (V - 1 - k)) := by rw [Int32.sub_mul, nI_mul, nI_mul]
  rw [e3, Int32.sub_eq_add_neg, ← Int32.add_assoc, ← e2, ← Int32.sub_eq_add_neg, Int32.add_sub_cancel]
theorem s12_restNow (M : mT h b N ns V st wt) (S : mS h N V f) (hf : fC V f) (hn : fN V N f) (A : mOr h V ord) (U : mUn h N V) (ho : ∀ i, i < V → ord i < V) (H : ∀ h', fr [106] [] h h' → Q (some (.int (oI (rsO f ord V)))) h') : zC mX12_restNow [.ref 84] h Q := by
  have hV := M.V8
  have hN := M.N3
  have hpw := pw_le hN hV
  have inner : ∀ (k : Nat), k < 41 → (∀ h0, fr [106] [] h h0 → mM h0 V N (xsF f ord V (k + 1)) → (fixB f ord V k = true → Q (some (.int (nI k))) h0) ∧ (¬ fixB f ord V k = true → zX mX12_restNow 25 [.ref 84, .int (nI (en (N + 1) V (xsF f ord V (k + 1)))), .int (nI (k + 1)), .float 0, .float 0, .float 0, .float 0] [] h0 Q)) →
      ∀ (d i : Nat) (h0 : zH), i + d = V → fr [106] [] h h0 → mM h0 V N (rdp f ord i (xsF f ord V k)) → zX mX12_restNow 36 [.ref 84, .int (nI (en (N + 1) V (rdp f ord i (xsF f ord V k)))), .int (nI k), .int (nI (en (N + 1) V (xsF f ord V k))), .int (nI i), .float 0, .float 0] [] h0 Q := by
    intro k hk go d
    have xk := xs_le hn ho k
    have xlt : ∀ v, v < V → xsF f ord V k v < N + 1 := fun v hv => Nat.lt_succ_of_le (xk v hv)
    induction d with
    | zero =>
      intro i h0 hi F K
      have : i = V := by omega
      subst this
      have M0 := M.fr F (by decide)
      have xlt1 : ∀ v, v < i → xsF f ord i (k + 1) v < N + 1 := fun v hv => Nat.lt_succ_of_le (xs_le hn ho (k + 1) v hv)
      obtain ⟨g1, g2⟩ := go h0 F K
      refine bX12_restNow_36 _ _ _ _ _ _ _ ⟨M0.l.o, s12_voterMany M0 ⟨_, rfl, br_t (nI_le (Nat.le_refl _) (by omega)) ?_⟩⟩
      have e : en (N + 1) i (rdp f ord i (xsF f ord i k)) = en (N + 1) i (xsF f ord i k) ↔ fixB f ord i k = true := by
        rw [fixB_iff]
        constructor
        · intro e v hv
          exact en_inj xlt1 xlt e v hv
        · intro e
          exact en_congr e
      have xlt1' : ∀ v, v < i → rdp f ord i (xsF f ord i k) v < N + 1 := xlt1
      rw [nI_eq (Nat.lt_of_lt_of_le (en_lt xlt1') (by omega)) (Nat.lt_of_lt_of_le (en_lt xlt) (by omega)), e, nI_1]
      exact ⟨g1, g2⟩
    | succ d ih =>
      intro i h0 hi F K
      have M0 := M.fr F (by decide)
      have S0 := S.fr F (by decide) (by simp)
      have oi := ho i (by omega)
      have rl := rdp_le hn ho i _ (show i ≤ V by omega) xk
      generalize hm : rdp f ord i (xsF f ord V k) = m at *
      have ml : ∀ v, v < V → m v < N + 1 := fun v hv => Nat.lt_succ_of_le (rl v hv)
      have rlt : en (N + 1) V m < (N + 1) ^ V := en_lt ml
      have fm := hn m rl
      have ai : aI h0 112 i = nI (ord i) := by rw [F.i (by simp)]; exact A i (by omega)
      have cl : (nI i).toNatClampNeg = i := nI_clamp (by omega)
      have vo : ∀ a, aN h0 a = 8 ∨ aN h0 a = 9 → vp_in (nI (ord i)) (aN h0 a) := fun a e => by rcases e with e | e <;> (rw [e]; exact vp_in_nI (by omega) (by decide))
      refine bX12_restNow_36 _ _ _ _ _ _ _ ⟨M0.l.o, s12_voterMany M0 ⟨_, rfl, br_f (nI_ge (by omega) (by omega)) ⟨M0.l.o, _, M0.l.r46, M0.l.k46, by rw [M0.l.n46]; exact vp_in_nI (by omega) (by decide), _, M0.l.r41, M0.l.k41, by rw [M0.l.n41]; exact vp_in_nI (by omega) (by decide), ?_⟩⟩⟩
      rw [cl, ai, nI_clamp (by omega), (S0.2 _ rlt).1, sdF_congr (fun v hv => hf _ _ (dg_en ml) v hv)]
      refine s12_saidBy (by have := sd31 hV hN fm; omega) (by omega) ⟨_, rfl, ?_⟩
      rw [sdF_dig hN fm oi]
      refine ⟨M0.l.o, _, M0.l.r38, M0.l.k38, vo _ (Or.inr M0.l.n38), _, M0.l.r47, M0.l.k47, vo _ (Or.inl M0.l.n47), vo _ (Or.inr M0.l.n38), fun h23 e23 => ?_⟩
      have clo : (nI (ord i)).toNatClampNeg = ord i := nI_clamp (by omega)
      have un : aI h0 113 (ord i) = nI ((N + 1) ^ (V - 1 - ord i)) := by rw [F.i (by simp)]; exact U _ oi
      rw [clo] at e23 ⊢
      rw [(K _ oi).1, un, en_step oi, nI_1]
      have er : rdp f ord (i + 1) (xsF f ord V k) = ud m (ord i) (f m (ord i)) := by rw [rdp, hm]
      rw [← er]
      refine ih (i + 1) h23 (by omega) (F.tr (by rw [e23]; exact fr_pI (by simp))) (fun v hv => ?_)
      rw [er]
      by_cases z : v = ord i
      · rw [z, ud_s, e23]; exact ⟨aI_pI_s ⟨_, M0.l.k38⟩, fm _ oi⟩
      · rw [ud_n z, e23, aI_pI_n (Or.inr z)]; exact K v hv
  have outer : ∀ (d k : Nat) (h0 : zH), k + d = 41 → fr [106] [] h h0 → mM h0 V N (xsF f ord V k) → fsN (fixB f ord V) d k = rsO f ord V → zX mX12_restNow 25 [.ref 84, .int (nI (en (N + 1) V (xsF f ord V k))), .int (nI k), .float 0, .float 0, .float 0, .float 0] [] h0 Q := by
    intro d
    induction d with
    | zero =>
      intro k h0 hk F K e
      have : k = 41 := by omega
      subst this
      refine bX12_restNow_25 _ _ _ _ _ (br_t (by decide +kernel) ?_)
      have := H h0 F
      rw [← e] at this
      exact this
    | succ d ih =>
      intro k h0 hk F K e
      rw [fsN] at e
      refine bX12_restNow_25 _ _ _ _ _ (br_f (nI_nlt (b := k) (a := 40) (by omega) (by decide)) ?_)
      refine inner k (by omega) (fun h1 F1 K1 => ⟨fun q => ?_, fun q => ?_⟩) V 0 h0 (by omega) F K
      · rw [if_pos q] at e
        have := H h1 F1
        rw [← e] at this
        exact this
      · rw [if_neg q] at e
        exact ih (k + 1) h1 (by omega) F1 K1 e
  have clr : ∀ (d j : Nat) (h0 : zH), j + d = 8 → fr [106] [] h h0 → (∀ v, v < j → aI h0 106 v = 0) → zX mX12_restNow 4 [.ref 84, .int 0, .int (nI j), .float 0, .float 0, .float 0, .float 0] [] h0 Q := by
    intro d
    induction d with
    | zero =>
      intro j h0 hj F e
      have : j = 8 := by omega
      subst this
      refine bX12_restNow_4 _ _ _ _ _ (br_t (by decide +kernel) ?_)
      have := outer 41 0 h0 rfl F (fun v hv => ⟨by rw [e v (by omega)]; rfl, Nat.zero_le _⟩) rfl
      have z : en (N + 1) V (xsF f ord V 0) = 0 := en_0
      rw [z] at this
      exact this
    | succ d ih =>
      intro j h0 hj F e
      have M0 := M.fr F (by decide)
      refine bX12_restNow_4 _ _ _ _ _ (br_f (nI_ge (b := 8) (by omega) (by decide)) ⟨M0.l.o, _, M0.l.r38, M0.l.k38, by rw [M0.l.n38]; exact vp_in_nI (by omega) (by decide), fun h6 e6 => ?_⟩)
      rw [nI_clamp (by omega)] at e6
      rw [nI_1]
      refine ih (j + 1) h6 (by omega) (F.tr (by rw [e6]; exact fr_pI (by simp))) (fun v hv => ?_)
      by_cases z : v = j
      · rw [e6, z]; exact aI_pI_s ⟨_, M0.l.k38⟩
      · rw [e6, aI_pI_n (Or.inr z)]; exact e v (by omega)
  exact nX12_restNow _ _ _ (bX12_restNow_0 _ _ _ (clr 8 0 h rfl fr.rf (fun v hv => absurd hv (Nat.not_lt_zero _))))
theorem s12_rest (M : mT h b N ns V st wt) (S : mS h N V f) (hf : fC V f) (hn : fN V N f) {x : Int32} (H1 : ∀ n h', x = nI n → n < 2 ^ 31 → mO n V V 0 0 = true → fr [106, 112, 113] [] h h' → Q (some (.int (oI (rsO f (ordF n V) V)))) h')
    (H0 : ∀ h', fr [106, 112, 113] [] h h' → (x < 0 ∨ ∃ n, x = nI n ∧ n < 2 ^ 31 ∧ mO n V V 0 0 = false) → Q (some (.int (-2))) h') : zC mX12_rest [.ref 84, .int x] h Q := by
  have hV := M.V8
  have hN := M.N3
  refine nX12_rest _ _ _ _ (bX12_rest_0 _ _ _ _ ⟨M.l.o, s12_voterMany M ⟨_, rfl, ?_⟩⟩)
  rw [nI_s1]
  by_cases hx : x < 0
  · -- below 0
    cases V with
    | zero =>
      refine bX12_rest_12 _ _ _ _ _ _ _ (br_t nI_d0 (br_f (fun z => ?_) (H0 h fr.rf (Or.inl hx))))
      rw [z] at hx; exact absurd hx (by decide)
    | succ V =>
      rw [nI_dn]
      refine bX12_rest_12 _ _ _ _ _ _ _ (br_f (nI_pos (by omega)) ⟨M.l.o, _, M.l.r46, by decide +kernel, M.l.k46, by rw [M.l.n46]; exact vp_in_nI (by omega) (by decide), fun h13 e13 => ⟨by decide +kernel, br_t hx (H0 h13 (by rw [e13]; exact fr_pI (by simp)) (Or.inl hx))⟩⟩)
  · obtain ⟨n, n31, rfl⟩ := nI_of hx
    have L : ∀ (k j met : Nat) (h0 : zH), j + k = V → met < 256 → fr [112] [] h h0 → (∀ i, V - j ≤ i → i < V → aI h0 112 i = nI (ordF n V i)) → mO n V k j met = mO n V V 0 0 → zX mX12_rest 12 [.ref 84, .int (nI n), .int (nI (n / 10 ^ j)), .int (nI met), .int (nI k + (-1))] [] h0 Q := by
      intro k
      induction k with
      | zero =>
        intro j met h0 hj hm F A e
        have : j = V := by omega
        subst this
        have M0 := M.fr F (by decide)
        have S0 := S.fr F (by decide) (by simp)
        have nd : n / 10 ^ j < 2 ^ 31 := Nat.lt_of_le_of_lt (Nat.div_le_self _ _) n31
        refine bX12_rest_12 _ _ _ _ _ _ _ (br_t nI_d0 ?_)
        rw [← nI_0, nI_eq nd (by decide)]
        rw [mO] at e
        refine ⟨fun q => ⟨M0.l.o, s12_layUnits M0 (fun h4 F4 U4 => ⟨rfl, ?_⟩)⟩, fun q => H0 h0 (F.mo (by simp) (by simp)) (Or.inr ⟨n, rfl, n31, by rw [← e]; simp [q]⟩)⟩
        have ok : mO n j j 0 0 = true := by rw [← e]; simp [q]
        have M4 := M0.fr F4 (by decide)
        have A4 : mOr h4 j (ordF n j) := fun i hi => by rw [F4.i (by simp)]; exact A i (by omega) hi
        refine ⟨M4.l.o, s12_restNow M4 (S0.fr F4 (by decide) (by simp)) hf hn A4 U4 (fun i hi => ordF_lt ok hi) (fun h6 F6 => ⟨_, rfl, ?_⟩)⟩
        exact H1 n h6 rfl n31 ok (((F.mo (by simp) (by simp)).tr (F4.mo (by simp) (by simp))).tr (F6.mo (by simp) (by simp)))
      | succ k ih =>
        intro j met h0 hj hm F A e
        have M0 := M.fr F (by decide)
        have nd : n / 10 ^ j < 2 ^ 31 := Nat.lt_of_le_of_lt (Nat.div_le_self _ _) n31
        rw [nI_dn]
        refine bX12_rest_12 _ _ _ _ _ _ _ (br_f (nI_pos (by omega)) ⟨M0.l.o, _, M0.l.r46, by decide +kernel, M0.l.k46, by rw [M0.l.n46]; exact vp_in_nI (by omega) (by decide), fun h13 e13 => ⟨by decide +kernel, br_f hx ?_⟩⟩)
        have t10 : nI (n / 10 ^ j) - nI (n / 10 ^ j) / (10 : Int32) * (10 : Int32) = nI (dgT n j) := pk_rem (d := 10) nd (by decide) (by decide)
        have q10 : nI (n / 10 ^ j) / (10 : Int32) = nI (n / 10 ^ (j + 1)) := by
          rw [Nat.pow_succ, ← Nat.div_div_eq_div_mul]; exact pk_div (d := 10) nd (by decide) (by decide)
        rw [t10, nI_s1, nI_clamp (by omega)] at e13
        rw [q10]
        have F13 : fr [112] [] h0 h13 := by rw [e13]; exact fr_pI (by simp)
        have M13 := M0.fr F13 (by decide)
        have FF := F.tr F13
        have a13 : aI h13 112 k = nI (dgT n j) + (-1) := by rw [e13]; exact aI_pI_s ⟨_, M0.l.k46⟩
        have v46 : vp_in (nI k) (aN h13 112) := by rw [M13.l.n46]; exact vp_in_nI (by omega) (by decide)
        have d9 : dgT n j < 10 := Nat.mod_lt _ (by decide)
        have bad : mO n V (k + 1) j met = false → Q (some (.int (-2))) h13 := fun z => H0 h13 (FF.mo (by simp) (by simp)) (Or.inr ⟨n, rfl, n31, by rw [← e]; exact z⟩)
        rw [mO] at e bad
        refine ⟨_, M13.l.r46, M13.l.k46, v46, ?_⟩
        rw [nI_clamp (by omega), a13]
        refine s12_isVoter M13 (fun q => ⟨_, rfl, br_t rfl (bad ?_)⟩) (fun v hv ev => ⟨_, rfl, br_f (by decide +kernel) ⟨M13.l.o, _, M13.l.r46, M13.l.k46, v46, ?_⟩⟩)
        · have : (decide (1 ≤ dgT n j) && decide (dgT n j ≤ V)) = false := by
            simp only [Bool.and_eq_false_imp, decide_eq_true_eq, decide_eq_false_iff_not]
            intro z1 z2
            obtain ⟨w, hw⟩ : ∃ w, dgT n j = w + 1 := ⟨dgT n j - 1, by omega⟩
            rw [hw, nI_dn] at q
            rcases q with q | q
            · exact absurd q (nI_pos (by omega))
            · rw [nI_leI (by omega) (by omega)] at q; omega
          rw [this]; rfl
        · rw [a13, ev, nI_bit (by omega) (by omega)]
          have hd : dgT n j = v + 1 := by
            generalize dgT n j = w at *
            cases w with
            | zero => exact absurd (by rw [← ev]; exact nI_d0) (nI_pos (n := v) (by omega))
            | succ w => rw [nI_dn, nI_eq (by omega) (by omega)] at ev; omega
          have c1 : (decide (1 ≤ dgT n j) && decide (dgT n j ≤ V)) = true := by rw [hd]; simp; omega
          have s1 : dgT n j - 1 = v := by omega
          rw [c1, s1, Bool.true_and] at e bad
          refine ⟨fun q => bad (by rw [q]; rfl), fun q => ⟨v46, ?_⟩⟩
          have q' : met.testBit v = false := by simpa using q
          rw [nI_1shl (by omega), nI_or]
          refine ih (j + 1) _ h13 (by omega) (Nat.or_lt_two_pow (n := 8) hm (Nat.lt_of_lt_of_le (Nat.pow_lt_pow_right (by decide) (show v < 8 by omega)) (by decide))) FF (fun i i1 i2 => ?_) (by rw [← e, q']; rfl)
          by_cases z : i = k
          · rw [z, a13, ordF, show V - 1 - k = j by omega, hd, nI_dn]; rfl
          · rw [e13, aI_pI_n (Or.inr z)]; exact A i (by omega) i2
    have := L V 0 0 h (by omega) (by decide) fr.rf (fun i h1 h2 => by omega) rfl
    rw [Nat.pow_zero, Nat.div_one] at this
    exact this
end

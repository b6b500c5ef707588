/-! ===== the reference: the next order, soonest ===== -/
section
variable {h h' : zH} {b N ns V xv : Nat} {st wt mm : Nat → Nat} {Q : Option Value → zH → Prop} {X : List Nat} {Y : List (Nat × Nat)} {f : (Nat → Nat) → Nat → Nat} {p : Nat → Nat}
theorem mOr_swp {a c : Nat} {h2 h3 : zH} (M : mT h b N ns V st wt) (A : mOr h V p) (ha : a < V) (hc : c < V) (e2 : h2 = pI h 112 a (aI h 112 c)) (e3 : h3 = pI h2 112 c (aI h 112 a)) : fr [112] [] h h3 ∧ mOr h3 V (swp p a c) := by
  have F2 : fr [112] [] h h2 := by rw [e2]; exact fr_pI (by simp)
  have M2 := M.fr F2 (by decide)
  refine ⟨F2.tr (by rw [e3]; exact fr_pI (by simp)), fun i hi => ?_⟩
  rw [e3, swp_at]
  by_cases z : i = c
  · rw [if_pos z, z, aI_pI_s ⟨_, M2.l.k46⟩]; exact A a ha
  · rw [if_neg z, aI_pI_n (Or.inr z), e2]
    by_cases y : i = a
    · rw [if_pos y, y, aI_pI_s ⟨_, M.l.k46⟩]; exact A c hc
    · rw [if_neg y, aI_pI_n (Or.inr y)]; exact A i hi
theorem l12_rev (M : mT h b N ns V st wt) : ∀ (d a c : Nat) (h0 : zH) (p : Nat → Nat), c < V → c ≤ a + 2 * d → fr [112] [] h h0 → mOr h0 V p → (∀ h', fr [112] [] h h' → mOr h' V (rvF d a c p) → Q (some (.int 1)) h') → a ≤ V → zX mX12_nextOrder 105 [.ref 84, .float 0, .float 0, .float 0, .float 0, .int (nI a), .int (nI c)] [] h0 Q := by
  have hV := M.V8
  intro d
  induction d with
  | zero =>
    intro a c h0 p hc hl F A H ha
    exact bX12_nextOrder_105 _ _ _ _ _ (br_t (nI_le (by omega) (by omega)) (H h0 F A))
  | succ d ih =>
    intro a c h0 p hc hl F A H ha
    have M0 := M.fr F (by decide)
    refine bX12_nextOrder_105 _ _ _ _ _ ?_
    rw [nI_leI (by omega) (by omega)]
    refine ⟨fun q => H h0 F (by rw [rvF, if_neg (by omega)]; exact A), fun q => ⟨M0.l.o, _, M0.l.r46, M0.l.k46, by rw [M0.l.n46]; exact vp_in_nI (by omega) (by decide), by rw [M0.l.n46]; exact vp_in_nI (by omega) (by decide), by rw [M0.l.n46]; exact vp_in_nI (by omega) (by decide), fun h8 e8 => ?_⟩⟩
    rw [nI_clamp (by omega), nI_clamp (by omega)] at e8
    have F8 : fr [112] [] h0 h8 := by rw [e8]; exact fr_pI (by simp)
    have M8 := M0.fr F8 (by decide)
    refine ⟨_, M8.l.r46, M8.l.k46, by rw [M8.l.n46]; exact vp_in_nI (by omega) (by decide), fun h14 e14 => ?_⟩
    rw [nI_clamp (by omega), nI_clamp (by omega)] at e14
    obtain ⟨F14, A14⟩ := mOr_swp M0 A (by omega : a < V) hc e8 e14
    have : nI c + (-1) = nI (c - 1) := by
      obtain ⟨w, rfl⟩ : ∃ w, c = w + 1 := ⟨c - 1, by omega⟩
      rw [nI_dn]; rfl
    rw [nI_1, this]
    exact ih (a + 1) (c - 1) h14 _ (by omega) (by omega) (F.tr F14) A14 (fun h' F' A' => H h' F' (by rw [rvF, if_pos (by omega)]; exact A')) (by omega)
theorem s12_nextOrder (M : mT h b N ns V st wt) (A : mOr h V p) (P : okP V p) (H1 : ∀ q h', nxF V p = some q → fr [112] [] h h' → mOr h' V q → Q (some (.int 1)) h') (H0 : nxF V p = none → Q (some (.int 0)) h) : zC mX12_nextOrder [.ref 84] h Q := by
  have hV := M.V8
  refine nX12_nextOrder _ _ _ (bX12_nextOrder_0 _ _ _ ⟨M.l.o, s12_voterMany M ⟨_, rfl, ?_⟩⟩)
  have L46 : ∀ (l : Nat), loF p (V - 1) = some l → ∀ (j : Nat), l < j → j ≤ V - 1 → hiF p (p l) j = hiF p (p l) (V - 1) → zX mX12_nextOrder 46 [.ref 84, .int (nI V), .int (nI l), .int (nI j), .float 0, .float 0, .float 0] [] h Q := by
    intro l hl j
    obtain ⟨l1, l2⟩ := lo_lt hl
    have cl : (nI l).toNatClampNeg = l := nI_clamp (by omega)
    have vl : vp_in (nI l) (aN h 112) := by rw [M.l.n46]; exact vp_in_nI (by omega) (by decide)
    induction j with
    | zero => intro z; omega
    | succ j ih =>
      intro hj hj2 e
      have vj : vp_in (nI (j + 1)) (aN h 112) := by rw [M.l.n46]; exact vp_in_nI (by omega) (by decide)
      have cj : (nI (j + 1)).toNatClampNeg = j + 1 := nI_clamp (by omega)
      have p1 := P.1 l (by omega)
      have p2 := P.1 (j + 1) (by omega)
      refine bX12_nextOrder_46 _ _ _ _ _ _ ⟨M.l.o, _, M.l.r46, M.l.k46, vj, vl, ?_⟩
      rw [cl, cj, A l (by omega), A (j + 1) (by omega), nI_leI (by omega) (by omega)]
      rw [hiF] at e
      refine ⟨fun q => ⟨vl, vj, vl, fun h10 e10 => ?_⟩, fun q => ?_⟩
      · rw [if_pos q] at e
        have F10 : fr [112] [] h h10 := by rw [e10]; exact fr_pI (by simp)
        have M10 := M.fr F10 (by decide)
        refine ⟨_, M10.l.r46, M10.l.k46, by rw [M10.l.n46]; exact vp_in_nI (by omega) (by decide), fun h16 e16 => ?_⟩
        obtain ⟨F16, A16⟩ := mOr_swp (c := j + 1) (h2 := h10) (h3 := h16) M A (by omega : l < V) (by omega) (by rw [A (j + 1) (by omega)]; exact e10) (by rw [A l (by omega)]; exact e16)
        obtain ⟨V', rfl⟩ : ∃ V', V = V' + 1 := ⟨V - 1, by omega⟩
        rw [nI_pred, nI_1]
        refine l12_rev M 8 (l + 1) V' h16 _ (by omega) (by omega) F16 A16 (fun h' F' A' => H1 _ h' ?_ F' A') (by omega)
        unfold nxF
        simp only [hl]
        rw [← e]; rfl
      · rw [if_neg q] at e
        rw [nI_dn]
        refine ih ?_ (by omega) e
        rcases Nat.lt_or_ge l j with z | z
        · exact z
        · have : l = j := by omega
          subst this; exact absurd l2 q
  have L9 : ∀ (k : Nat), k ≤ V - 1 → 0 < V → loF p k = loF p (V - 1) → zX mX12_nextOrder 9 [.ref 84, .int (nI V), .int (nI k + (-1)), .float 0, .float 0, .float 0, .float 0] [] h Q := by
    intro k
    induction k with
    | zero =>
      intro hk h0 e
      refine bX12_nextOrder_9 _ _ _ _ _ (br_t nI_d0 (br_f (by decide +kernel) (H0 ?_)))
      unfold nxF
      rw [← e]; rfl
    | succ k ih =>
      intro hk h0 e
      rw [loF] at e
      have vk : vp_in (nI k) (aN h 112) := by rw [M.l.n46]; exact vp_in_nI (by omega) (by decide)
      have vk1 : vp_in (nI (k + 1)) (aN h 112) := by rw [M.l.n46]; exact vp_in_nI (by omega) (by decide)
      have p1 := P.1 k (by omega)
      have p2 := P.1 (k + 1) (by omega)
      rw [nI_dn]
      refine bX12_nextOrder_9 _ _ _ _ _ (br_f (nI_pos (by omega)) ⟨M.l.o, _, M.l.r46, M.l.k46, vk, ?_⟩)
      rw [nI_1, nI_clamp (by omega), nI_clamp (by omega), A k (by omega), A (k + 1) (by omega), nI_leI (by omega) (by omega)]
      refine ⟨vk1, fun q => br_t (nI_pos' (by omega)) ?_, fun q => ?_⟩
      · rw [if_pos q] at e
        obtain ⟨V', rfl⟩ : ∃ V', V = V' + 1 := ⟨V - 1, by omega⟩
        rw [nI_pred]
        exact L46 k e.symm V' (by omega) (by omega) rfl
      · rw [if_neg q] at e
        exact ih (by omega) h0 e
  cases V with
  | zero => exact bX12_nextOrder_9 _ _ _ _ _ (br_t (by decide +kernel) (br_f (by decide +kernel) (H0 rfl)))
  | succ V =>
    have e : nI (V + 1) - 2 = nI V + (-1) := by
      rw [show (2 : Int32) = 1 + 1 from rfl, ← Int32.sub_sub, nI_pred, nI_s1]
    rw [e]
    exact L9 V (Nat.le_refl _) (by omega) rfl
theorem dg31 (hV : V ≤ 8) (P : okP V p) : dgF p V < 100000000 := Nat.lt_of_lt_of_le (dgF_lt (fun j hj => by have := P.1 j hj; omega)) (Nat.le_trans (Nat.pow_le_pow_right (by decide) hV) (by decide))
theorem s12_digitsOf (M : mT h b N ns V st wt) (A : mOr h V p) (H : Q (some (.int (nI (dgF p V)))) h) : zC mX12_digitsOf [.ref 84] h Q := by
  have hV := M.V8
  have L : ∀ (d i : Nat), i + d = V → zX mX12_digitsOf 4 [.ref 84, .int (nI (dgF p i)), .int (nI i)] [] h Q := by
    intro d
    induction d with
    | zero =>
      intro i hi
      have : i = V := by omega
      subst this
      exact bX12_digitsOf_4 _ _ _ _ _ ⟨M.l.o, s12_voterMany M ⟨_, rfl, br_t (nI_le (Nat.le_refl _) (by omega)) H⟩⟩
    | succ d ih =>
      intro i hi
      refine bX12_digitsOf_4 _ _ _ _ _ ⟨M.l.o, s12_voterMany M ⟨_, rfl, br_f (nI_ge (by omega) (by omega)) ⟨M.l.o, _, M.l.r46, M.l.k46, by rw [M.l.n46]; exact vp_in_nI (by omega) (by decide), ?_⟩⟩⟩
      rw [nI_clamp (by omega), A i (by omega), nI_lit 10, nI_mul, nI_add, nI_1, nI_1]
      exact ih (i + 1) (by omega)
  exact nX12_digitsOf _ _ _ (bX12_digitsOf_0 _ _ _ (L V 0 (by omega)))
/-- what soonest answers -/
def soA (best : Option (Nat × Nat)) (w : Int32) : Int32 := match best with
  | none => -1
  | some bb => if w = 0 then nI bb.1 else nI bb.2
def bDg (best : Option (Nat × Nat)) : Int32 := match best with
  | none => -1
  | some bb => nI bb.2
def bRs (best : Option (Nat × Nat)) : Int32 := match best with
  | none => 0
  | some bb => nI bb.1
theorem s12_soonest (M : mT h b N ns V st wt) (S : mS h N V f) (hf : fC V f) (hn : fN V N f) {x : Int32} (H1 : ∀ h', (x = 0 ∨ x = 1) → fr [106, 112, 113] [] h h' → Q (some (.int (soA (soF f V) x))) h') (H0 : ¬ (x = 0 ∨ x = 1) → Q (some (.int (-1))) h) : zC mX12_soonest [.ref 84, .int x] h Q := by
  have hV := M.V8
  refine nX12_soonest _ _ _ _ (bX12_soonest_0 _ _ _ _ (s12_isIn (fun q => ⟨_, rfl, br_t rfl (H0 (fun z => ?_))⟩) (fun q1 q2 => ⟨_, rfl, br_f (by decide +kernel) ⟨M.l.o, s12_layUnits M (fun h5 F5 U5 => ⟨rfl, ?_⟩)⟩⟩)))
  · rcases z with z | z <;> rw [z] at q <;> exact absurd q (by decide)
  have hx : x = 0 ∨ x = 1 := by
    obtain ⟨m, m1, rfl⟩ := nI_of q1
    rw [nI_lit 1, nI_ltI (by decide) m1] at q2
    have : m = 0 ∨ m = 1 := by omega
    rcases this with rfl | rfl
    · exact Or.inl rfl
    · exact Or.inr rfl
  have F5' : fr [106, 112, 113] [] h h5 := F5.mo (by simp) (by simp)
  have fin : ∀ (best : Option (Nat × Nat)) (h0 : zH), best = soF f V → fr [106, 112, 113] [] h h0 → (∀ bb, best = some bb → bb.1 < 41 ∧ bb.2 < 100000000) → zX mX12_soonest 43 [.ref 84, .int x, .int (bDg best), .int (bRs best), .int 0, .float 0] [] h0 Q := fun best h0 e F hb => by
    have HH := H1 h0 hx F
    rw [← e] at HH
    cases best with
    | none => exact bX12_soonest_43 _ _ _ _ _ _ _ (br_t rfl (br_f (by decide +kernel) HH))
    | some bb =>
      have := hb bb rfl
      refine bX12_soonest_43 _ _ _ _ _ _ _ (br_t rfl (br_t (nI_pos' (by omega)) ⟨fun q => ?_, fun q => ?_⟩))
      · unfold soA at HH; simp only [q, if_true] at HH; exact HH
      · unfold soA at HH; simp only [q, if_false] at HH; exact HH
  have step : ∀ (d : Nat), (∀ (p : Nat → Nat) (best : Option (Nat × Nat)) (h0 : zH), okP V p → fcF V ≤ rkF p V + d → bsF f V d p best = soF f V → fr [106, 112, 113] [] h h0 → mOr h0 V p → mUn h0 N V → (∀ bb, best = some bb → bb.1 < 41 ∧ bb.2 < 100000000) → zX mX12_soonest 43 [.ref 84, .int x, .int (bDg best), .int (bRs best), .int 1, .float 0] [] h0 Q) →
      ∀ (p : Nat → Nat) (best : Option (Nat × Nat)) (h0 : zH), okP V p → fcF V ≤ rkF p V + (d + 1) → bsF f V (d + 1) p best = soF f V → fr [106, 112, 113] [] h h0 → mOr h0 V p → mUn h0 N V → (∀ bb, best = some bb → bb.1 < 41 ∧ bb.2 < 100000000) → zX mX12_soonest 43 [.ref 84, .int x, .int (bDg best), .int (bRs best), .int 1, .float 0] [] h0 Q := by
    intro d ih p best h0 P hr e F A U hb
    have M0 := M.fr F (by decide)
    have S0 := S.fr F (by decide) (by simp)
    have hdg := dg31 hV P
    have cont : ∀ (h1 : zH), fr [106] [] h0 h1 → (∀ bb, upB f V best p = some bb → bb.1 < 41 ∧ bb.2 < 100000000) → zC mX12_nextOrder [.ref 84] h1 (fun r0 h9 => ∃ x10 : Int32, r0 = some (.int x10) ∧ zX mX12_soonest 43 [.ref 84, .int x, .int (bDg (upB f V best p)), .int (bRs (upB f V best p)), .int x10, .float 0] [] h9 Q) := fun h1 F1 hb' => by
      have M1 := M0.fr F1 (by decide)
      refine s12_nextOrder M1 (A.fr F1 (by simp)) P (fun q h9 hq F9 A9 => ⟨_, rfl, ?_⟩) (fun hq => ⟨_, rfl, ?_⟩)
      · have := nx_ok P hq
        rw [bsF, hq] at e
        have FF : fr [106, 112, 113] [] h0 h9 := (F1.mo (by simp) (by simp)).tr (F9.mo (by simp) (by simp))
        exact ih q (upB f V best p) h9 this.1 (by omega) e (F.tr FF) A9 ((U.fr F1 (by simp)).fr F9 (by simp)) hb'
      · rw [bs_last hq] at e
        exact fin _ h1 e (F.tr (F1.mo (by simp) (by simp))) hb'
    refine bX12_soonest_43 _ _ _ _ _ _ _ (br_f (by decide +kernel) ⟨M0.l.o, s12_restNow M0 S0 hf hn A U P.1 (fun h1 F1 => ⟨_, rfl, ?_⟩)⟩)
    have M1 := M0.fr F1 (by decide)
    cases hrs : rsO f p V with
    | none =>
      have eu : upB f V best p = best := by unfold upB; rw [hrs]
      rw [eu] at cont
      exact br_t (by decide +kernel) ⟨M1.l.o, cont h1 F1 hb⟩
    | some k =>
      have hk := (fsN_lt hrs).2.1
      refine br_f (nI_pos (n := k) (by omega)) ⟨fun q => ?_, fun q => ?_⟩
      · cases best with
        | some bb => exact absurd q (nI_pos (by have := hb bb rfl; omega))
        | none =>
          have eu : upB f V none p = some (k, dgF p V) := by unfold upB; rw [hrs]
          rw [eu] at cont
          exact ⟨M1.l.o, s12_digitsOf M1 (A.fr F1 (by simp)) ⟨_, rfl, M1.l.o, cont h1 F1 (fun bb hbb => by cases hbb; exact ⟨by omega, hdg⟩)⟩⟩
      · cases best with
        | none => exact absurd (by decide +kernel) q
        | some bb =>
          have hbb := hb bb rfl
          show (nI bb.1 ≤ nI k → _) ∧ (¬ nI bb.1 ≤ nI k → _)
          rw [nI_leI (by omega) (by omega)]
          refine ⟨fun q2 => ?_, fun q2 => ?_⟩
          · have eu : upB f V (some bb) p = some bb := by unfold upB; rw [hrs]; simp only []; rw [if_neg (by omega)]
            rw [eu] at cont
            exact ⟨M1.l.o, cont h1 F1 hb⟩
          · have eu : upB f V (some bb) p = some (k, dgF p V) := by unfold upB; rw [hrs]; simp only []; rw [if_pos (by omega)]
            rw [eu] at cont
            exact ⟨M1.l.o, s12_digitsOf M1 (A.fr F1 (by simp)) ⟨_, rfl, M1.l.o, cont h1 F1 (fun bb hbb => by cases hbb; exact ⟨by omega, hdg⟩)⟩⟩
  have L : ∀ (d : Nat) (p : Nat → Nat) (best : Option (Nat × Nat)) (h0 : zH), okP V p → fcF V ≤ rkF p V + d → bsF f V d p best = soF f V → fr [106, 112, 113] [] h h0 → mOr h0 V p → mUn h0 N V → (∀ bb, best = some bb → bb.1 < 41 ∧ bb.2 < 100000000) → zX mX12_soonest 43 [.ref 84, .int x, .int (bDg best), .int (bRs best), .int 1, .float 0] [] h0 Q := by
    intro d
    induction d with
    | zero =>
      intro p best h0 P hr
      have := @rk_lt V p
      omega
    | succ d ih => exact step d ih
  have clr : ∀ (d j : Nat) (h0 : zH), j + d = 8 → fr [106, 112, 113] [] h h0 → mUn h0 N V → (∀ v, v < j → aI h0 112 v = nI v) → zX mX12_soonest 17 [.ref 84, .int x, .int (nI j), .float 0, .float 0, .float 0] [] h0 Q := by
    intro d
    induction d with
    | zero =>
      intro j h0 hj F U e
      have : j = 8 := by omega
      subst this
      refine bX12_soonest_17 _ _ _ _ _ (br_t (by decide +kernel) ?_)
      exact L (fcF V) (fun i => i) none h0 ⟨fun i hi => hi, fun i j _ _ e => e⟩ (by omega) rfl F (fun i hi => e i (by omega)) U (fun _ z => by cases z)
    | succ d ih =>
      intro j h0 hj F U e
      have M0 := M.fr F (by decide)
      refine bX12_soonest_17 _ _ _ _ _ (br_f (nI_ge (b := 8) (by omega) (by decide)) ⟨M0.l.o, _, M0.l.r46, M0.l.k46, by rw [M0.l.n46]; exact vp_in_nI (by omega) (by decide), fun h6 e6 => ?_⟩)
      rw [nI_clamp (by omega)] at e6
      rw [nI_1]
      have F6 : fr [106, 112, 113] [] h0 h6 := by rw [e6]; exact fr_pI (by simp)
      refine ih (j + 1) h6 (by omega) (F.tr F6) (fun v hv => by rw [e6, aI_pI_n (Or.inl (by decide))]; exact U v hv) (fun v hv => ?_)
      by_cases z : v = j
      · rw [e6, z]; exact aI_pI_s ⟨_, M0.l.k46⟩
      · rw [e6, aI_pI_n (Or.inr z)]; exact e v (by omega)
  exact clr 8 0 h5 rfl F5' U5 (fun v hv => absurd hv (Nat.not_lt_zero _))
end

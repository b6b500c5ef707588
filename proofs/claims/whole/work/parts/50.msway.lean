/-! ===== the reference: sway ===== -/
section
variable {h h' : zH} {b N ns V xv : Nat} {st wt mm : Nat → Nat} {Q : Option Value → zH → Prop} {X : List Nat} {Y : List (Nat × Nat)} {f : (Nat → Nat) → Nat → Nat}
/-- a row that breaks none but those of a set -/
def inS (N V : Nat) (f : (Nat → Nat) → Nat → Nat) (s r : Nat) : Bool := (List.range V).all (fun v => s.testBit v || decide (f (dg (N + 1) V r) v = dg (N + 1) V r v))
theorem inS_iff {s r : Nat} : inS N V f s r = true ↔ ∀ v, v < V → s.testBit v = false → f (dg (N + 1) V r) v = dg (N + 1) V r v := by
  simp only [inS, List.all_eq_true, List.mem_range, Bool.or_eq_true, decide_eq_true_eq]
  constructor
  · intro e v hv hs
    rcases e v hv with z | z
    · rw [hs] at z; cases z
    · exact z
  · intro e v hv
    cases hs : s.testBit v
    · exact Or.inr (e v hv hs)
    · exact Or.inl rfl
/-- what those of a set are told -/
def tkP (s : Nat) (m : Nat → Nat) : Nat → Nat
  | 0 => 0
  | v + 1 => if s.testBit v = true then 4 * tkP s m v + m v else tkP s m v
theorem tk_lt {s : Nat} {m : Nat → Nat} : ∀ {v : Nat}, (∀ i, i < v → m i ≤ 3) → tkP s m v < 4 ^ (sm (fun v => s / 2 ^ v % 2) 0 v)
  | 0, _ => by simp [tkP, sm]
  | v + 1, hm => by
    have ih := tk_lt (s := s) (fun i hi => hm i (by omega) : ∀ i, i < v → m i ≤ 3)
    have h3 := hm v (by omega)
    rw [tkP, sm_last, Nat.zero_add]
    by_cases z : s.testBit v = true
    · have e : s / 2 ^ v % 2 = 1 := (tb s v).mpr z
      rw [if_pos z, e, Nat.pow_succ]
      omega
    · rw [if_neg z]
      exact Nat.lt_of_lt_of_le ih (Nat.pow_le_pow_right (by decide) (Nat.le_add_right _ _))
theorem tk_64 {s : Nat} {m : Nat → Nat} {v : Nat} (hm : ∀ i, i < v → m i ≤ 3) (h3 : pcF s ≤ 3) (hv : v ≤ 31) : tkP s m v < 64 := by
  refine Nat.lt_of_lt_of_le (tk_lt hm) (Nat.le_trans (Nat.pow_le_pow_right (by decide) (?_ : _ ≤ 3)) (by decide))
  have e : pcF s = sm (fun v => s / 2 ^ v % 2) 0 (v + (31 - v)) := by rw [show v + (31 - v) = 31 by omega]; rfl
  rw [e, sm_add] at h3
  omega
/-- the rows of a set and what it is told -/
def swL (N V : Nat) (f : (Nat → Nat) → Nat → Nat) (s k n : Nat) : List Nat := (List.range n).filter (fun r => inS N V f s r && Nat.beq (tkP s (dg (N + 1) V r) V) k)
def swB (N V : Nat) (f : (Nat → Nat) → Nat → Nat) (st wt : Nat → Nat) (name s k : Nat) : Bool := decide (0 < (swL N V f s k ((N + 1) ^ V)).length) && decide ((swL N V f s k ((N + 1) ^ V)).length = ((swL N V f s k ((N + 1) ^ V)).filter (cwB V N st wt name)).length)
theorem swL_s {s k n : Nat} : swL N V f s k (n + 1) = swL N V f s k n ++ (if inS N V f s n && Nat.beq (tkP s (dg (N + 1) V n) V) k then [n] else []) := filter_range_s _ _
theorem swL_le {s k n : Nat} : (swL N V f s k n).length ≤ n := flt_le _ n
theorem cw_iff {name r : Nat} (hN : N ≤ 3) (hn : name < N) : nI (chF V N st wt (dg (N + 1) V r)) + (-1) = nI name ↔ cwB V N st wt name r = true := by
  have hc := chF_le (V := V) (st := st) (wt := wt) (mk := dg (N + 1) V r) hN
  unfold cwB
  generalize chF V N st wt (dg (N + 1) V r) = y at *
  cases y with
  | zero => simp; exact fun z => absurd (by rw [← z]; exact nI_d0) (nI_pos (n := name) (by omega))
  | succ y => rw [nI_dn, nI_eq (by omega) (by omega)]; simp
theorem kp_or {s r : Nat} (hs : s < 2 ^ V) : kpF (f (dg (N + 1) V r)) (dg (N + 1) V r) V ||| s = 2 ^ V - 1 ↔ inS N V f s r = true := by
  rw [inS_iff]
  constructor
  · intro e v hv hsb
    have := congrArg (fun x => x.testBit v) e
    simp only [Nat.testBit_or, kpF_bit, hsb, Nat.testBit_two_pow_sub_one, Bool.or_false] at this
    simp [hv] at this
    exact this
  · intro e
    apply Nat.eq_of_testBit_eq
    intro v
    rw [Nat.testBit_or, kpF_bit, Nat.testBit_two_pow_sub_one]
    by_cases hv : v < V
    · cases hsb : s.testBit v
      · simp [hv, e v hv hsb]
      · simp [hv]
    · have : s.testBit v = false := Nat.testBit_lt_two_pow (Nat.lt_of_lt_of_le hs (Nat.pow_le_pow_right (by decide) (by omega)))
      simp [hv, this]
theorem s12_byMarks {name s : Nat} (M : mT h b N ns V st wt) (S : mS h N V f) (hname : name < N) (hs : s < 2 ^ V) (h3 : pcF s ≤ 3) (H : ∀ h', fr [106, 114, 115] [] h h' → Q (some (.int (oI (fsN (swB N V f st wt name s) 64 0)))) h') : zC mX12_byMarks [.ref 84, .int (nI name), .int (nI s)] h Q := by
  have hV := M.V8
  have hN := M.N3
  have hpw := pw_le hN hV
  have p20 : 0 < 2 ^ V := Nat.two_pow_pos V
  have p2 : 2 ^ V ≤ 256 := Nat.le_trans (Nat.pow_le_pow_right (by decide) hV) (by decide)
  have fin : ∀ (d k : Nat) (h0 : zH), k + d = 64 → fr [106, 114, 115] [] h h0 → (∀ k, k < 64 → aI h0 114 k = nI (swL N V f s k ((N + 1) ^ V)).length ∧ aI h0 115 k = nI ((swL N V f s k ((N + 1) ^ V)).filter (cwB V N st wt name)).length) → fsN (swB N V f st wt name s) d k = fsN (swB N V f st wt name s) 64 0 → zX mX12_byMarks 148 [.ref 84, .float 0, .float 0, .int (nI k), .float 0, .float 0] [] h0 Q := by
    intro d
    induction d with
    | zero =>
      intro k h0 hk F A e
      have : k = 64 := by omega
      subst this
      have HH := H h0 F
      rw [← e] at HH
      exact bX12_byMarks_148 _ _ _ _ (br_t (by decide +kernel) HH)
    | succ d ih =>
      intro k h0 hk F A e
      have M0 := M.fr F (by decide)
      obtain ⟨a1, a2⟩ := A k (by omega)
      have l1 := @swL_le N V f s k ((N + 1) ^ V)
      have l2 := List.length_filter_le (cwB V N st wt name) (swL N V f s k ((N + 1) ^ V))
      have vk : ∀ a, aN h0 a = 64 → vp_in (nI k) (aN h0 a) := fun a e => by rw [e]; exact vp_in_nI (by omega) (by decide)
      have cl : (nI k).toNatClampNeg = k := nI_clamp (by omega)
      rw [fsN] at e
      refine bX12_byMarks_148 _ _ _ _ (br_f (nI_ge (b := 64) (by omega) (by decide)) ⟨M0.l.o, _, M0.l.r48, M0.l.k48, vk _ M0.l.n48, ?_⟩)
      rw [cl, a1, ← nI_0, nI_leI (by omega) (by decide), nI_1]
      refine ⟨fun q => ?_, fun q => ⟨vk _ M0.l.n48, _, M0.l.r49, M0.l.k49, vk _ M0.l.n49, ?_⟩⟩
      · have : swB N V f st wt name s k = false := by
          unfold swB
          rw [decide_eq_false (by omega), Bool.false_and]
        rw [this] at e
        exact ih (k + 1) h0 (by omega) F A e
      · rw [a2, nI_eq (by omega) (by omega)]
        refine ⟨fun q2 => ?_, fun q2 => ?_⟩
        · have : swB N V f st wt name s k = true := by
            unfold swB
            rw [decide_eq_true (by omega), decide_eq_true q2]; rfl
          rw [this] at e
          have HH := H h0 F
          rw [← e] at HH
          exact HH
        · have : swB N V f st wt name s k = false := by
            unfold swB
            rw [decide_eq_false q2, Bool.and_false]
          rw [this] at e
          exact ih (k + 1) h0 (by omega) F A e
  have rowsL : ∀ (d r : Nat) (h0 : zH), r + d = (N + 1) ^ V → fr [106, 114, 115] [] h h0 → (∀ k, k < 64 → aI h0 114 k = nI (swL N V f s k r).length ∧ aI h0 115 k = nI ((swL N V f s k r).filter (cwB V N st wt name)).length) → zX mX12_byMarks 30 [.ref 84, .int (nI name), .int (nI s), .int (nI r), .float 0, .float 0] [] h0 Q := by
    intro d
    induction d with
    | zero =>
      intro r h0 hr F A
      have : r = (N + 1) ^ V := by omega
      subst this
      have M0 := M.fr F (by decide)
      have S0 := S.fr F (by decide) (by simp)
      exact bX12_byMarks_30 _ _ _ _ _ _ ⟨M0.l.o, br_t (by rw [S0.1]; exact nI_le (Nat.le_refl _) (by omega)) (fin 64 0 h0 rfl F A rfl)⟩
    | succ d ih =>
      intro r h0 hr F A
      have M0 := M.fr F (by decide)
      have S0 := S.fr F (by decide) (by simp)
      have kpl := @kpF_lt (f (dg (N + 1) V r)) (dg (N + 1) V r) V
      have e9 := (S0.2 r (by omega)).2
      refine bX12_byMarks_30 _ _ _ _ _ _ ⟨M0.l.o, br_f (by rw [S0.1]; exact nI_ge (by omega) (by omega)) ⟨_, M0.l.r42, M0.l.k42, by rw [M0.l.n42]; exact vp_in_nI (by omega) (by decide), s12_everybody M0 ⟨_, rfl, ?_⟩⟩⟩
      rw [nI_clamp (by omega), e9, nI_or, nI_eq (by have := Nat.or_lt_two_pow kpl hs; omega) (by omega), kp_or hs, nI_1]
      refine ⟨fun q => ⟨M0.l.o, s12_layMarks M0 (by omega) (fun h1 F1 _ K1 => ⟨rfl, ?_⟩)⟩, fun q => ?_⟩
      · have M1 := M0.fr F1 (by decide)
        have F1' : fr [106, 114, 115] [] h0 h1 := F1.mo (by simp) (by simp)
        have m3 : ∀ v, v < V → dg (N + 1) V r v ≤ 3 := fun v hv => by have := (K1 v hv).2; omega
        generalize hm : dg (N + 1) V r = m at *
        have inner : ∀ (d i : Nat), i + d = V → zX mX12_byMarks 67 [.ref 84, .int (nI name), .int (nI s), .int (nI r), .int (nI (tkP s m i)), .int (nI i)] [] h1 Q := by
          intro d
          induction d with
          | zero =>
            intro i hi
            have : i = V := by omega
            subst this
            have kt := tk_64 (s := s) (v := i) m3 h3 (by omega)
            generalize hk : tkP s m i = k at *
            obtain ⟨a1, a2⟩ := A k (by omega)
            have l1 := @swL_le N i f s k r
            have l2 := List.length_filter_le (cwB i N st wt name) (swL N i f s k r)
            have cl : (nI k).toNatClampNeg = k := nI_clamp (by omega)
            refine bX12_byMarks_67 _ _ _ _ _ _ _ _ ⟨M1.l.o, s12_voterMany M1 ⟨_, rfl, br_t (nI_le (Nat.le_refl _) (by omega)) ⟨M1.l.o, _, M1.l.r48, M1.l.k48, by rw [M1.l.n48]; exact vp_in_nI (by omega) (by decide), by rw [M1.l.n48]; exact vp_in_nI (by omega) (by decide), fun h10 e10 => ?_⟩⟩⟩
            rw [cl, F1.i (by simp), a1, nI_1] at e10
            have F10 : fr [106, 114, 115] [] h1 h10 := by rw [e10]; exact fr_pI (by simp)
            have M10 := M1.fr F10 (by decide)
            have K10 : mM h10 i N m := fun v hv => by rw [e10, aI_pI_n (Or.inl (by decide))]; exact K1 v hv
            have b10 : aI h10 115 k = nI ((swL N i f s k r).filter (cwB i N st wt name)).length := by rw [e10, aI_pI_n (Or.inl (by decide)), F1.i (by simp)]; exact a2
            refine ⟨_, M10.l.r49, M10.l.k49, by rw [M10.l.n49]; exact vp_in_nI (by omega) (by decide), s12_chosenNow M10 K10 ⟨_, rfl, ?_⟩⟩
            have cwi := cw_iff (V := i) (st := st) (wt := wt) (r := r) hN hname
            rw [hm] at cwi
            rw [cwi, cl, b10, nI_1, Int32.add_zero]
            have go : ∀ h21 y, h21 = pI h10 115 k (nI (((swL N i f s k r).filter (cwB i N st wt name)).length + y)) → y = (if cwB i N st wt name r = true then 1 else 0) → zX mX12_byMarks 30 [.ref 84, .int (nI name), .int (nI s), .int (nI (r + 1)), .float 0, .float 0] [] h21 Q := fun h21 y e21 hy => by
              refine ih (r + 1) h21 (by omega) (((F.tr F1').tr F10).tr (by rw [e21]; exact fr_pI (by simp))) (fun k' hk' => ?_)
              rw [swL_s, q, hm, hk, Bool.true_and]
              by_cases z : k' = k
              · subst z
                have eb : Nat.beq k' k' = true := Nat.beq_refl k'
                rw [eb, if_pos rfl, List.filter_append, List.length_append, List.length_append]
                refine ⟨?_, ?_⟩
                · rw [e21, aI_pI_n (Or.inl (by decide)), e10, aI_pI_s ⟨_, M1.l.k48⟩]; rfl
                · rw [e21, aI_pI_s ⟨_, M10.l.k49⟩, hy]
                  by_cases w : cwB i N st wt name r = true
                  · simp [w]
                  · simp [w]
              · have eb : Nat.beq k k' = false := by
                  cases hb : Nat.beq k k'
                  · rfl
                  · exact absurd (Nat.eq_of_beq_eq_true hb).symm z
                rw [eb]
                simp only [Bool.false_eq_true, if_false, List.append_nil]
                obtain ⟨c1, c2⟩ := A k' hk'
                refine ⟨?_, ?_⟩
                · rw [e21, aI_pI_n (Or.inl (by decide)), e10, aI_pI_n (Or.inr z), F1.i (by simp)]; exact c1
                · rw [e21, aI_pI_n (Or.inr z), e10, aI_pI_n (Or.inl (by decide)), F1.i (by simp)]; exact c2
            refine ⟨fun w => ⟨M10.l.k49, by rw [M10.l.n49]; exact vp_in_nI (by omega) (by decide), fun h21 e21 => ?_⟩, fun w => ⟨M10.l.k49, by rw [M10.l.n49]; exact vp_in_nI (by omega) (by decide), fun h21 e21 => ?_⟩⟩
            · rw [nI_1 r]; exact go h21 1 e21 (by rw [if_pos w])
            · rw [nI_1 r]; exact go h21 0 e21 (by rw [if_neg w])
          | succ d ih2 =>
            intro i hi
            have kt := tk_64 (s := s) (v := i) (m := m) (fun j hj => m3 j (by omega)) h3 (by omega)
            refine bX12_byMarks_67 _ _ _ _ _ _ _ _ ⟨M1.l.o, s12_voterMany M1 ⟨_, rfl, br_f (nI_ge (by omega) (by omega)) ?_⟩⟩
            have nx := ih2 (i + 1) (by omega)
            rw [tkP] at nx
            rw [nI_bit (by omega) (by omega), nI_1]
            refine ⟨fun w => ⟨M1.l.o, _, M1.l.r38, M1.l.k38, by rw [M1.l.n38]; exact vp_in_nI (by omega) (by decide), ?_⟩, fun w => ?_⟩
            · rw [if_pos w] at nx
              rw [nI_clamp (by omega), (K1 i (by omega)).1, nI_lit 4, nI_mul, nI_add]
              exact nx
            · rw [if_neg w] at nx
              exact nx
        exact inner V 0 (by omega)
      · refine ih (r + 1) h0 (by omega) F (fun k hk => ?_)
        have : inS N V f s r = false := by simpa using q
        rw [swL_s, this, Bool.false_and]
        simp only [Bool.false_eq_true, if_false, List.append_nil]
        exact A k hk
  have clr : ∀ (d j : Nat) (h0 : zH), j + d = 64 → fr [106, 114, 115] [] h h0 → (∀ k, k < j → aI h0 114 k = 0 ∧ aI h0 115 k = 0) → zX mX12_byMarks 2 [.ref 84, .int (nI name), .int (nI s), .int (nI j), .float 0, .float 0] [] h0 Q := by
    intro d
    induction d with
    | zero =>
      intro j h0 hj F A
      have : j = 64 := by omega
      subst this
      exact bX12_byMarks_2 _ _ _ _ _ _ (br_t (by decide +kernel) (rowsL ((N + 1) ^ V) 0 h0 (by omega) F (fun k hk => by simp [swL]; exact A k hk)))
    | succ d ih =>
      intro j h0 hj F A
      have M0 := M.fr F (by decide)
      have cl : (nI j).toNatClampNeg = j := nI_clamp (by omega)
      refine bX12_byMarks_2 _ _ _ _ _ _ (br_f (nI_ge (b := 64) (by omega) (by decide)) ⟨M0.l.o, _, M0.l.r48, M0.l.k48, by rw [M0.l.n48]; exact vp_in_nI (by omega) (by decide), fun h6 e6 => ?_⟩)
      rw [cl] at e6
      have F6 : fr [106, 114, 115] [] h0 h6 := by rw [e6]; exact fr_pI (by simp)
      have M6 := M0.fr F6 (by decide)
      refine ⟨_, M6.l.r49, M6.l.k49, by rw [M6.l.n49]; exact vp_in_nI (by omega) (by decide), fun h12 e12 => ?_⟩
      rw [cl] at e12
      rw [nI_1]
      refine ih (j + 1) h12 (by omega) ((F.tr F6).tr (by rw [e12]; exact fr_pI (by simp))) (fun k hk => ?_)
      by_cases z : k = j
      · subst z
        rw [e12, aI_pI_s ⟨_, M6.l.k49⟩, aI_pI_n (Or.inl (by decide)), e6, aI_pI_s ⟨_, M0.l.k48⟩]
        exact ⟨rfl, rfl⟩
      · rw [e12, aI_pI_n (Or.inl (by decide)), aI_pI_n (Or.inr z), e6, aI_pI_n (Or.inr z), aI_pI_n (Or.inl (by decide))]
        exact A k (by omega)
  exact nX12_byMarks _ _ _ _ _ (bX12_byMarks_0 _ _ _ _ _ (clr 64 0 h rfl fr.rf (fun k hk => absurd hk (Nat.not_lt_zero _))))
end

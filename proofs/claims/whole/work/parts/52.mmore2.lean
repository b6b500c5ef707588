/-! ===== the reference: more, hands, time ===== -/
section
variable {h h' : zH} {b N ns V xv : Nat} {st wt mm : Nat → Nat} {Q : Option Value → zH → Prop} {X : List Nat} {Y : List (Nat × Nat)} {f : (Nat → Nat) → Nat → Nat} {cn : Nat → Nat} {cd : Nat → Nat → Nat × Nat × Nat}
theorem mT.stw {st' wt' : Nat → Nat} (M : mT h b N ns V st wt) (h1 : ∀ v, v < V → st' v = st v) (h2 : ∀ v, v < V → wt' v = wt v) : mT h b N ns V st' wt' := by
  obtain ⟨m1, m2, m3, m4, m5, m6, m7, m8, m9, m10⟩ := M
  exact ⟨m1, m2, m3, m4, m5, m6, m7, m8, m9, fun v hv => by rw [h1 v hv, h2 v hv]; exact m10 v hv⟩
theorem mT.s88 (M : mT h b N ns V st wt) : aI h 88 b = nI ns := M.2.2.2.2.2.1
theorem s12_more (M : mT h b N ns V st wt) (S : mS h N V f) (E : gI h 84 40 = -1) (B : mB h b V N cn cd) {x y : Int32}
    (H1 : ∀ its m h', x = nI its → its < ns → y = nI m → m ≤ N → V ≠ 8 → fr [106, 107] [(84, 40)] h h' → gI h' 84 40 = -1 → Q (some (.int (nI ((List.range' 0 ((N + 1) ^ V)).filter (mrB N V st wt cn cd its m)).length))) h')
    (H0 : ((x < 0 ∨ nI ns ≤ x) ∨ (y < 0 ∨ nI N < y) ∨ V = 8) → Q (some (.int (-1))) h) : zC mX12_more [.ref 84, .int x, .int y] h Q := by
  have hV := M.V8
  have hN := M.N3
  have hb := M.b2
  have hns := M.ns4
  have hpw := pw_le hN hV
  refine nX12_more _ _ _ _ _ (bX12_more_0 _ _ _ _ _ ⟨M.l.o, _, M.l.r12, M.l.k12, ?_⟩)
  rw [M.b26, nI_clamp (by omega), M.s88, nI_s1]
  refine ⟨by rw [M.l.n12]; exact vp_in_nI (by omega) (by decide), s12_isIn (fun q => ⟨_, rfl, br_t rfl (H0 (Or.inl ?_))⟩) (fun q1 q2 => ⟨_, rfl, br_f (by decide +kernel) ⟨M.l.o, s12_nameMany M ⟨_, rfl, s12_isIn (fun q => ⟨_, rfl, br_t rfl (H0 (Or.inr (Or.inl q)))⟩) (fun q3 q4 => ⟨_, rfl, br_f (by decide +kernel) ⟨M.l.o, s12_voterMany M ⟨_, rfl, ?_⟩⟩⟩)⟩⟩⟩)⟩
  · rcases q with q | q
    · exact Or.inl q
    · by_cases z : x < 0
      · exact Or.inl z
      · obtain ⟨m, m1, rfl⟩ := nI_of z
        rw [m1lt m1 (by omega)] at q
        exact Or.inr (nI_le q m1)
  obtain ⟨its, m1, rfl⟩ := nI_of q1
  rw [m1lt m1 (by omega)] at q2
  obtain ⟨m, m2, rfl⟩ := nI_of q3
  rw [nI_ltI (by omega) m2] at q4
  refine ⟨fun q => H0 (Or.inr (Or.inr ((nI_eq (b := 8) (by omega) (by decide)).mp q))), fun q => ⟨M.l.o, fun h19 e19 => ?_⟩⟩
  have hV8 : V ≠ 8 := fun z => q (by rw [z]; rfl)
  have F19 : fr [106, 107] [(84, 40)] h h19 := by rw [e19]; exact fr_pF (by simp) M.l.o rfl rfl
  have M19 := M.fr F19 (by decide)
  refine ⟨_, M19.l.r38, M19.l.k38, by rw [M19.l.n38]; exact vp_in_nI (n := 8) (N := 9) (by decide) (by decide), fun h24 e24 => ?_⟩
  have c8 : (8 : Int32).toNatClampNeg = 8 := by decide +kernel
  rw [c8] at e24
  have F24 : fr [106, 107] [(84, 40)] h19 h24 := by rw [e24]; exact fr_pI (by simp)
  have g40 : gI h24 84 40 = nI its := by rw [e24, gI_pI, e19]; exact gI_pF_s M.l.o (by decide)
  have a8 : aI h24 106 8 = nI m := by rw [e24]; exact aI_pI_s ⟨_, M19.l.k38⟩
  have FF := F19.tr F24
  have L : ∀ (d r a : Nat) (h0 : zH), r + d = (N + 1) ^ V → a + ((List.range' r d).filter (mrB N V st wt cn cd its m)).length = ((List.range' 0 ((N + 1) ^ V)).filter (mrB N V st wt cn cd its m)).length → fr [106, 107] [(84, 40)] h h0 → gI h0 84 40 = nI its → aI h0 106 8 = nI m → zX mX12_more 60 [.ref 84, .float 0, .float 0, .int (nI a), .int (nI r), .float 0, .float 0] [] h0 Q := by
    intro d
    induction d with
    | zero =>
      intro r a h0 hr e F g40 a8
      have : r = (N + 1) ^ V := by omega
      subst this
      have M0 := M.fr F (by decide)
      have S0 := S.fr F (by decide) (by simp)
      refine bX12_more_60 _ _ _ _ _ ⟨M0.l.o, br_t (by rw [S0.1]; exact nI_le (Nat.le_refl _) (by omega)) (fun h3 e3 => ?_)⟩
      have F3 : fr [106, 107] [(84, 40)] h0 h3 := by rw [e3]; exact fr_pF (by simp) M0.l.o rfl rfl
      have HH := H1 its m h3 rfl (by omega) rfl (by omega) hV8 (F.tr F3) (by rw [e3]; exact gI_pF_s M0.l.o (by decide))
      rw [← e] at HH
      simpa using HH
    | succ d ih =>
      intro r a h0 hr e F g40 a8
      have M0 := M.fr F (by decide)
      have S0 := S.fr F (by decide) (by simp)
      rw [flt_s] at e
      refine bX12_more_60 _ _ _ _ _ ⟨M0.l.o, br_f (by rw [S0.1]; exact nI_ge (by omega) (by omega)) (s12_layMarks M0 (by omega) (fun h5 F5 e8 K5 => ⟨rfl, ?_⟩))⟩
      have done : ∀ (h1 : zH) (i : Nat), fr [106, 107] [(84, 40)] h h1 → gI h1 84 40 = nI its → aI h1 106 8 = nI m → i = (if mrB N V st wt cn cd its m r = true then 1 else 0) → zX mX12_more 124 [.ref 84, .float 0, .float 0, .int (nI a), .int (nI r), .int (nI i), .float 0] [] h1 Q := fun h1 i F1 g1 a1 hi => by
        refine bX12_more_124 _ _ _ _ _ _ ⟨fun z => ?_, fun z => ?_⟩
        · rw [nI_1, Int32.add_zero]
          have : mrB N V st wt cn cd its m r = false := by
            cases hm : mrB N V st wt cn cd its m r
            · rfl
            · rw [hm] at hi; subst hi; exact absurd z (by decide)
          rw [this] at e
          exact ih (r + 1) a h1 (by omega) (by simpa using e) F1 g1 a1
        · rw [nI_1, nI_1]
          have : mrB N V st wt cn cd its m r = true := by
            cases hm : mrB N V st wt cn cd its m r
            · rw [hm] at hi; subst hi; exact absurd nI_0 z
            · rfl
          rw [this, if_pos rfl, List.length_cons] at e
          exact ih (r + 1) (a + 1) h1 (by omega) (by omega) F1 g1 a1
      generalize hmk : dg (N + 1) V r = mk at *
      have inner : ∀ (d v : Nat) (h1 : zH), v + d = V → fr [107] [] h5 h1 → (∀ w, w < v → sayF (V + 1) N (ud st V its) (ud wt V 1) (ud mk V m) w (cn w) (cd w) = mk w) → zX mX12_more 81 [.ref 84, .float 0, .float 0, .int (nI a), .int (nI r), .int 1, .int (nI v)] [] h1 Q := by
        intro d
        induction d with
        | zero =>
          intro v h1 hv F1 ok
          have : v = V := by omega
          subst this
          have FA : fr [106, 107] [(84, 40)] h h1 := (F.tr (F5.mo (by simp) (by simp))).tr (F1.mo (by simp) (by simp))
          have M1 := M.fr FA (by decide)
          refine bX12_more_81 _ _ _ _ _ _ _ ⟨M1.l.o, s12_voterMany M1 ⟨_, rfl, br_t (nI_le (Nat.le_refl _) (by omega)) ?_⟩⟩
          refine done h1 1 FA (by rw [F1.gi (by simp), F5.gi (by simp)]; exact g40) (by rw [F1.i (by simp), e8]; exact a8) ?_
          have : mrB N v st wt cn cd its m r = true := by
            simp only [mrB, List.all_eq_true, List.mem_range, decide_eq_true_eq, hmk]
            exact ok
          rw [if_pos this]
        | succ d ih2 =>
          intro v h1 hv F1 ok
          have FA : fr [106, 107] [(84, 40)] h h1 := (F.tr (F5.mo (by simp) (by simp))).tr (F1.mo (by simp) (by simp))
          have M1 := M.fr FA (by decide)
          have K1 := K5.fr F1 (by simp)
          have M1' : mT h1 b N ns V (ud st V its) (ud wt V 1) := M1.stw (fun w hw => ud_n (by omega)) (fun w hw => ud_n (by omega))
          have g1 : gI h1 84 40 = nI its := by rw [F1.gi (by simp), F5.gi (by simp)]; exact g40
          have a1 : aI h1 106 8 = nI m := by rw [F1.i (by simp), e8]; exact a8
          have E1 : mE h1 ns V 1 (ud st V its) (ud wt V 1) (ud mk V m) := Or.inr ⟨rfl, by rw [ud_s]; exact g1, by rw [ud_s]; omega, by rw [ud_s]; exact a1, by rw [ud_s]; omega, by rw [ud_s]⟩
          have K1' : mM h1 V N (ud mk V m) := fun w hw => by rw [ud_n (by omega)]; exact K1 w hw
          have C1 := (B v (by omega)).1.fr FA (by decide)
          refine bX12_more_81 _ _ _ _ _ _ _ ⟨M1.l.o, s12_voterMany M1 ⟨_, rfl, br_f (nI_ge (by omega) (by omega)) (br_f (by decide +kernel) ⟨M1.l.o, s12_saysNow M1' E1 K1' (by omega) C1 (B v (by omega)).2 (fun h7 F7 => ⟨_, rfl, ?_⟩)⟩)⟩⟩
          have FB : fr [106, 107] [(84, 40)] h h7 := FA.tr (F7.mo (by simp) (by simp))
          have M7 := M.fr FB (by decide)
          refine ⟨M7.l.o, _, M7.l.r38, M7.l.k38, by rw [M7.l.n38]; exact vp_in_nI (by omega) (by decide), ?_⟩
          have kv := K1 v (by omega)
          have sl : sayF (V + 1) N (ud st V its) (ud wt V 1) (ud mk V m) v (cn v) (cd v) ≤ N := sayF_le (V' := V) (fun w hw => by rw [ud_n (by omega)]; exact (K1 w hw).2) (B v (by omega)).2
          rw [nI_clamp (by omega), F7.i (by simp), kv.1, nI_eq (by omega) (by omega), nI_1]
          refine ⟨fun z => ih2 (v + 1) h7 (by omega) (F1.tr F7) (fun w hw => ?_), fun z => ?_⟩
          · by_cases y : w = v
            · subst y; exact z
            · exact ok w (by omega)
          · have hno : mrB N V st wt cn cd its m r = false := by
              cases hm : mrB N V st wt cn cd its m r
              · rfl
              · simp only [mrB, List.all_eq_true, List.mem_range, decide_eq_true_eq, hmk] at hm
                exact absurd (hm v (by omega)) z
            have out := done h7 0 FB (by rw [F7.gi (by simp)]; exact g1) (by rw [F7.i (by simp)]; exact a1) (by rw [hno]; rfl)
            refine bX12_more_81 _ _ _ _ _ _ _ ⟨M7.l.o, s12_voterMany M7 ⟨_, rfl, fun _ => out, fun _ => br_t rfl out⟩⟩
      exact inner V 0 h5 (by omega) fr.rf (fun w hw => absurd hw (Nat.not_lt_zero _))
  exact L ((N + 1) ^ V) 0 0 h24 (by omega) (by omega) FF g40 a8
/-! hands -/
theorem mHL_add {HL : List zHd} {q0 : zHd} (A : mHL h HL) (hl : HL.length < 20) (g54 : gI h' 84 54 = nI (HL.length + 1)) (e : ∀ r, r = 116 ∨ r = 117 ∨ r = 118 ∨ r = 119 → ∀ i, i ≠ HL.length → aI h' r i = aI h r i) (e1 : aI h' 116 HL.length = nI q0.1) (e2 : aI h' 117 HL.length = nI q0.2.1) (e3 : aI h' 118 HL.length = nI q0.2.2.1) (e4 : aI h' 119 HL.length = oI q0.2.2.2) : mHL h' (HL ++ [q0]) := by
  refine ⟨by simpa using g54, fun n q hq => ?_⟩
  by_cases z : n < HL.length
  · rw [List.getElem?_append_left z] at hq
    have := A.2 n q hq
    rw [e 116 (by simp) n (by omega), e 117 (by simp) n (by omega), e 118 (by simp) n (by omega), e 119 (by simp) n (by omega)]
    exact this
  · rw [List.getElem?_append_right (by omega)] at hq
    have : n = HL.length := by
      rcases Nat.lt_or_ge (n - HL.length) 1 with y | y
      · omega
      · rw [List.getElem?_eq_none (by simpa using y)] at hq; cases hq
    subst this
    rw [Nat.sub_self] at hq
    cases hq
    exact ⟨e1, e2, e3, e4⟩
theorem s12_hand {HL : List zHd} {tm : Nat} (M : mT h b N ns V st wt) (A : mHL h HL) (O : hdO V N HL) (T : gI h 84 55 = nI tm) {x y : Int32} (H1 : ∀ j m h', x = nI j → j < V → y = nI m → m ≤ N → HL.length < 20 → fr [116, 117, 118, 119] [(84, 54)] h h' → mHL h' (HL ++ [(j, m, tm, none)]) → Q (some (.int (nI HL.length))) h') (H0 : ((x < 0 ∨ nI V ≤ x) ∨ (y < 0 ∨ nI N < y) ∨ HL.length = 20) → Q (some (.int (-1))) h) : zC mX12_hand [.ref 84, .int x, .int y] h Q := by
  have hV := M.V8
  have hN := M.N3
  have h20 := O.1
  refine nX12_hand _ _ _ _ _ (bX12_hand_0 _ _ _ _ _ ⟨M.l.o, s12_isVoter M (fun q => ⟨_, rfl, br_t rfl (H0 (Or.inl q))⟩) (fun j hj e => ⟨_, rfl, br_f (by decide +kernel) ⟨M.l.o, s12_nameMany M ⟨_, rfl, s12_isIn (fun q => ⟨_, rfl, br_t rfl (H0 (Or.inr (Or.inl q)))⟩) (fun q1 q2 => ⟨_, rfl, br_f (by decide +kernel) ?_⟩)⟩⟩⟩)⟩)
  subst e
  obtain ⟨m, m1, rfl⟩ := nI_of q1
  rw [nI_ltI (by omega) m1] at q2
  refine ⟨M.l.o, ?_⟩
  rw [A.1]
  refine ⟨fun q => H0 (Or.inr (Or.inr ((nI_eq (b := 20) (by omega) (by decide)).mp q))), fun q => ?_⟩
  have hl : HL.length < 20 := by
    rcases Nat.lt_or_ge HL.length 20 with z | z
    · exact z
    · exact absurd (by rw [show HL.length = 20 by omega]; rfl) q
  have cl : (nI HL.length).toNatClampNeg = HL.length := nI_clamp (by omega)
  have vi : ∀ (h0 : zH) a, aN h0 a = 20 → vp_in (nI HL.length) (aN h0 a) := fun h0 a e => by rw [e]; exact vp_in_nI hl (by decide)
  refine ⟨_, M.l.r50, M.l.k50, vi _ _ M.l.n50, fun h16 e16 => ?_⟩
  rw [cl] at e16
  have F16 : fr [116, 117, 118, 119] [(84, 54)] h h16 := by rw [e16]; exact fr_pI (by simp)
  have M16 := M.fr F16 (by decide)
  have g16 : gI h16 84 54 = nI HL.length := by rw [e16, gI_pI]; exact A.1
  refine ⟨_, M16.l.r51, M16.l.k51, by rw [g16]; exact vi _ _ M16.l.n51, fun h22 e22 => ?_⟩
  rw [g16, cl] at e22
  have F22 : fr [116, 117, 118, 119] [(84, 54)] h16 h22 := by rw [e22]; exact fr_pI (by simp)
  have M22 := M16.fr F22 (by decide)
  have g22 : gI h22 84 54 = nI HL.length := by rw [e22, gI_pI]; exact g16
  refine ⟨_, M22.l.r52, M22.l.k52, by rw [g22]; exact vi _ _ M22.l.n52, fun h29 e29 => ?_⟩
  rw [g22, cl] at e29
  have F29 : fr [116, 117, 118, 119] [(84, 54)] h22 h29 := by rw [e29]; exact fr_pI (by simp)
  have M29 := M22.fr F29 (by decide)
  have g29 : gI h29 84 54 = nI HL.length := by rw [e29, gI_pI]; exact g22
  refine ⟨_, M29.l.r53, M29.l.k53, by rw [g29]; exact vi _ _ M29.l.n53, fun h37 e37 h43 e43 => ?_⟩
  rw [g29, cl] at e37
  have F37 : fr [116, 117, 118, 119] [(84, 54)] h29 h37 := by rw [e37]; exact fr_pI (by simp)
  have M37 := M29.fr F37 (by decide)
  have g37 : gI h37 84 54 = nI HL.length := by rw [e37, gI_pI]; exact g29
  rw [g37] at e43
  have F43 : fr [116, 117, 118, 119] [(84, 54)] h37 h43 := by rw [e43]; exact fr_pF (by simp) M37.l.o rfl rfl
  have g43 : gI h43 84 54 = nI (HL.length + 1) := by rw [e43, gI_pF_s M37.l.o (by decide)]; exact nI_1 _
  have t22 : gI h22 84 55 = nI tm := by rw [F22.gi (by simp), F16.gi (by simp)]; exact T
  rw [g43, nI_pred]
  have r43 : ∀ a, aI h43 a = aI h37 a := fun a => by rw [e43]; exact funext fun i => aI_pF
  refine H1 j m h43 rfl hj rfl (by omega) hl ((((F16.tr F22).tr F29).tr F37).tr F43) (mHL_add A hl g43 ?_ ?_ ?_ ?_ ?_)
  · intro r hr i hi
    rw [r43]
    have n1 : ∀ {a b : Nat}, b ≠ a ∨ i ≠ HL.length := fun {a b} => Or.inr hi
    rw [e37, aI_pI_n n1, e29, aI_pI_n n1, e22, aI_pI_n n1, e16, aI_pI_n n1]
  · rw [r43, e37, aI_pI_n (Or.inl (by decide)), e29, aI_pI_n (Or.inl (by decide)), e22, aI_pI_n (Or.inl (by decide)), e16]; exact aI_pI_s ⟨_, M.l.k50⟩
  · rw [r43, e37, aI_pI_n (Or.inl (by decide)), e29, aI_pI_n (Or.inl (by decide)), e22]; exact aI_pI_s ⟨_, M16.l.k51⟩
  · rw [r43, e37, aI_pI_n (Or.inl (by decide)), e29, aI_pI_s ⟨_, M22.l.k52⟩]; exact t22
  · rw [r43, e37]; exact aI_pI_s ⟨_, M29.l.k53⟩
theorem mHL_set {HL : List zHd} {n tm : Nat} {q0 : zHd} (A : mHL h HL) (hq : HL[n]? = some q0) (g54 : gI h' 84 54 = gI h 84 54) (e : ∀ r, r = 116 ∨ r = 117 ∨ r = 118 → aI h' r = aI h r) (e4 : ∀ i, i ≠ n → aI h' 119 i = aI h 119 i) (e5 : aI h' 119 n = nI tm) : mHL h' (HL.set n (q0.1, q0.2.1, q0.2.2.1, some tm)) := by
  refine ⟨by rw [g54, A.1, List.length_set], fun i q hi => ?_⟩
  rw [e 116 (by simp), e 117 (by simp), e 118 (by simp)]
  by_cases z : i = n
  · subst z
    have hl := (List.getElem?_eq_some_iff.mp hq).1
    rw [List.getElem?_set_self hl] at hi
    cases hi
    have := A.2 i q0 hq
    exact ⟨this.1, this.2.1, this.2.2.1, e5⟩
  · rw [List.getElem?_set_ne (Ne.symm z)] at hi
    rw [e4 i z]
    exact A.2 i q hi
theorem s12_untell {HL : List zHd} {tm : Nat} (M : mT h b N ns V st wt) (A : mHL h HL) (O : hdO V N HL) (T : gI h 84 55 = nI tm) {x : Int32} (H1 : ∀ n q0 h', x = nI n → HL[n]? = some q0 → q0.2.2.2 = none → fr [119] [] h h' → mHL h' (HL.set n (q0.1, q0.2.1, q0.2.2.1, some tm)) → Q (some (.int 1)) h') (H0 : ((x < 0 ∨ nI HL.length ≤ x) ∨ ∃ n q0, x = nI n ∧ HL[n]? = some q0 ∧ q0.2.2.2 ≠ none) → Q (some (.int 0)) h) : zC mX12_untell [.ref 84, .int x] h Q := by
  have h20 := O.1
  refine nX12_untell _ _ _ _ (bX12_untell_0 _ _ _ _ ⟨M.l.o, ?_⟩)
  rw [A.1, nI_s1]
  refine s12_isIn (fun q => ⟨_, rfl, br_t rfl (H0 (Or.inl ?_))⟩) (fun q1 q2 => ⟨_, rfl, br_f (by decide +kernel) ?_⟩)
  · rcases q with q | q
    · exact Or.inl q
    · by_cases z : x < 0
      · exact Or.inl z
      · obtain ⟨m, m1, rfl⟩ := nI_of z
        rw [m1lt m1 (by omega)] at q
        exact Or.inr (nI_le q m1)
  obtain ⟨n, m1, rfl⟩ := nI_of q1
  rw [m1lt m1 (by omega)] at q2
  obtain ⟨q0, hq, -⟩ := drop_of (l := HL) (n := n) (by omega)
  have a := A.2 n q0 hq
  have o := O.2 q0 (List.mem_of_getElem? hq)
  have vn : vp_in (nI n) (aN h 119) := by rw [M.l.n53]; exact vp_in_nI (by omega) (by decide)
  refine ⟨M.l.o, _, M.l.r53, M.l.k53, vn, ?_⟩
  rw [nI_clamp (by omega), a.2.2.2, oI_neg (fun u hu => by have := o.2.2.2 u hu; omega)]
  refine ⟨fun z => ⟨vn, fun h11 e11 => H1 n q0 h11 rfl hq z (by rw [e11]; exact fr_pI (by simp)) (mHL_set A hq (by rw [e11, gI_pI]) (fun r hr => ?_) (fun i hi => by rw [e11, aI_pI_n (Or.inr hi)]) (by rw [e11, aI_pI_s ⟨_, M.l.k53⟩]; exact T))⟩, fun z => H0 (Or.inr ⟨n, q0, rfl, hq, z⟩)⟩
  rw [e11]
  exact funext fun i => aI_pI_n (Or.inl (by omega))
theorem s12_later {tm : Nat} (L : mLay h) (T : gI h 84 55 = nI tm) (hT : tm ≤ 100000) {x : Int32} (H1 : ∀ d h', x = nI d → d ≤ 1000 → tm + d ≤ 100000 → fr [] [(84, 55)] h h' → gI h' 84 55 = nI (tm + d) → Q (some (.int (nI (tm + d)))) h') (H0 : ((x < 0 ∨ (1000 : Int32) < x) ∨ ∃ d, x = nI d ∧ d ≤ 1000 ∧ ¬ tm + d ≤ 100000) → Q (some (.int (-1))) h) : zC mX12_later [.ref 84, .int x] h Q := by
  refine nX12_later _ _ _ _ (bX12_later_0 _ _ _ _ (s12_isIn (fun q => ⟨_, rfl, br_t rfl (H0 (Or.inl q))⟩) (fun q1 q2 => ⟨_, rfl, br_f (by decide +kernel) ⟨L.o, ?_⟩⟩)))
  obtain ⟨d, m1, rfl⟩ := nI_of q1
  rw [nI_lit 1000, nI_ltI (by decide) m1] at q2
  rw [T, nI_add, nI_lit 100000, nI_leI (by omega) (by decide)]
  refine ⟨fun q h6 e6 => ?_, fun q => H0 (Or.inr ⟨d, rfl, by omega, q⟩)⟩
  have g : gI h6 84 55 = nI (tm + d) := by rw [e6]; exact gI_pF_s L.o (by decide)
  rw [g]
  exact H1 d h6 rfl (by omega) q (by rw [e6]; exact fr_pF (by simp) L.o rfl rfl) g
end

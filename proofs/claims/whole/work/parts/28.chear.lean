/-! ===== the class: what a ballot says ===== -/
section
variable {h h' : zH} {t N V sp bl : Nat} {st wt mk : Nat → Nat} {Q : Option Value → zH → Prop} {X : List Nat} {Y : List (Nat × Nat)}
/-- a speaker -/
def cSp (h : zH) (sp : Nat) : Prop := (sp = 10 ∨ sp = 13) ∧ oK h sp 6 ∧ gR h sp 0 = some (sp + 1) ∧ iK h (sp + 1) 0 ∧ aN h (sp + 1) = 64
theorem cSp.fr (S : cSp h sp) (F : fr X Y h h') (hY : (sp, 0) ∉ Y) : cSp h' sp := ⟨S.1, F.o S.2.1, by rw [F.gr hY]; exact S.2.2.1, F.ik S.2.2.2.1, by rw [F.n]; exact S.2.2.2.2⟩
/-- its pile -/
def stS (h : zH) (sp : Nat) (l : List Int32) : Prop := gI h sp 1 = nI l.length ∧ stR (aI h (sp + 1)) l
theorem s6_push {l : List Int32} {x : Int32} (S : cSp h sp) (P : stS h sp l) (hl : l.length < 64) (H : ∀ h', fr [sp + 1] [(sp, 1)] h h' → stS h' sp (x :: l) → Q none h') : zC mX6_push [.ref sp, .int x] h Q := by
  refine nX6_push _ _ _ _ (bX6_push_0 _ _ _ _ ⟨S.2.1, _, S.2.2.1, ?_⟩)
  rw [P.1]
  refine s11_putN S.2.2.2.1 S.2.2.2.2 hl (by decide) (fun h1 e1 => ⟨rfl, ?_⟩)
  have F1 : fr [sp + 1] [(sp, 1)] h h1 := by rw [e1]; exact fr_pI (by simp)
  refine ⟨F1.o S.2.1, fun h2 e2 => ?_⟩
  have F2 : fr [sp + 1] [(sp, 1)] h1 h2 := by rw [e2]; exact fr_pF (by simp) (F1.o S.2.1) rfl rfl
  refine H h2 (F1.tr F2) ⟨?_, ?_, ?_⟩
  · rw [e2, gI_pF_s (F1.o S.2.1) (by decide), e1, gI_pI, P.1, nI_1]; rfl
  · rw [e2, aI_pF, e1, aI_pI_s ⟨_, S.2.2.2.1⟩]
  · refine stR_c (fun j hj => ?_) P.2
    rw [e2, aI_pF, e1, aI_pI_n (Or.inr (by omega))]
theorem s6_pop {l : List Int32} (S : cSp h sp) (P : stS h sp l) (h0 : 0 < l.length) (hl : l.length ≤ 64) (H : ∀ h', fr [sp + 1] [(sp, 1)] h h' → stS h' sp l.tail → Q (some (.int (l.headD 0))) h') : zC mX6_pop [.ref sp] h Q := by
  match l, h0, hl, P, H with
  | x :: r, _, hl, P, H =>
    have hr : r.length < 64 := by simp at hl; omega
    refine nX6_pop _ _ _ (bX6_pop_0 _ _ _ ⟨S.2.1, fun h2 e2 => ?_⟩)
    have F2 : fr [sp + 1] [(sp, 1)] h h2 := by rw [e2]; exact fr_pF (by simp) S.2.1 rfl rfl
    have e : gI h2 sp 1 = nI r.length := by rw [e2, gI_pF_s S.2.1 (by decide), P.1]; exact nI_pred r.length
    refine ⟨_, by rw [F2.gr (by simp)]; exact S.2.2.1, ?_⟩
    rw [e]
    refine s11_atN (F2.ik S.2.2.2.1) (by rw [F2.n]; exact S.2.2.2.2) hr (by decide) ⟨_, rfl, ?_⟩
    have e3 : aI h2 (sp + 1) = aI h (sp + 1) := by rw [e2]; exact funext fun j => aI_pF
    rw [e3, P.2.1]
    exact H h2 F2 ⟨e, by rw [e3]; exact P.2.2⟩
/-- a step as the class keeps it -/
def cdC (o : Nat × Nat × Nat) : Int32 := nI (o.1 + 16 * o.2.1 + 256 * o.2.2)
def akV (n : Nat) (c : Nat → Nat × Nat × Nat) (v : Nat) : Bool := (List.range n).any (fun i => ((c i).1 == 2 || (c i).1 == 13) && (c i).2.2 == v)
def akS (n : Nat) (c : Nat → Nat × Nat × Nat) (s : Nat) : Bool := (List.range n).any (fun i => ((c i).1 == 1 || (c i).1 == 14 || (c i).1 == 15) && (c i).2.1 == s)
/-- a ballot: its steps, units, whom it looks at; R: rows that its steps are not -/
def cB (h : zH) (R : List Nat) (bl n : Nat) (c : Nat → Nat × Nat × Nat) (u : Nat) : Prop := oK h bl 0 ∧ (bl = 34 ∨ 126 ≤ bl) ∧ gI h bl 1 = nI u ∧ (∃ s, gR h bl 0 = some s ∧ (s = 35 ∨ 126 ≤ s) ∧ s ∉ R ∧ iK h s 0 ∧ aN h s = n ∧ n ≤ 640 ∧ ∀ i, i < n → aI h s i = cdC (c i)) ∧ ∃ bv bs, gI h bl 2 = nI bv ∧ bv < 256 ∧ (∀ v, bv.testBit v = akV n c v) ∧ gI h bl 3 = nI bs ∧ bs < 256 ∧ ∀ s, bs.testBit s = akS n c s
theorem cB.fr {n u : Nat} {R : List Nat} {c : Nat → Nat × Nat × Nat} (B : cB h R bl n c u) (F : fr X Y h h') (hX : ∀ k, k ∈ X → (k < 126 ∧ k ≠ 35) ∨ k ∈ R) (hY : ∀ q, q ∈ Y → q.1 < 126 ∧ q.1 ≠ 34) : cB h' R bl n c u := by
  obtain ⟨b1, b2, b9, ⟨s, b3, b4, b0, b5, b6, b7, b8⟩, bv, bs, w1, w2, w3, w4, w5⟩ := B
  have hX' : s ∉ X := fun z => by
    rcases hX s z with y | y
    · omega
    · exact b0 y
  have hY' : ∀ f, (bl, f) ∉ Y := fun f z => by
    have := hY _ z
    simp at this
    omega
  refine ⟨F.o b1, b2, by rw [F.gi (hY' 1)]; exact b9, ⟨s, by rw [F.gr (hY' 0)]; exact b3, b4, b0, F.ik b5, by rw [F.n]; exact b6, b7, fun i hi => ?_⟩, bv, bs, by rw [F.gi (hY' 2)]; exact w1, w2, w3, by rw [F.gi (hY' 3)]; exact w4, w5⟩
  rw [F.i hX']
  exact b8 i hi
theorem w_and (x : Nat) (hx : x < 2 ^ 31) : nI x &&& 15 = nI (x % 16) := pk_andN (by omega) 4 (by decide +kernel)
theorem w_s8 (x : Nat) (hx : x < 2 ^ 31) : nI x >>> ((8 : Int32) &&& 31) = nI (x / 256) := pk_shrN hx _ 8 (by decide +kernel)
theorem w_s4 (x : Nat) (hx : x < 2 ^ 31) : (nI x >>> ((4 : Int32) &&& 31)) &&& 15 = nI (x / 16 % 16) := by
  rw [pk_shrN hx _ 4 (by decide +kernel), w_and _ (by have := Nat.div_le_self x (2 ^ 4); omega)]
theorem s6_joined {k : Nat} {u w : Int32} (hk : k = 4 ∨ k = 5 ∨ k = 7 ∨ k = 8 ∨ k = 9 ∨ k = 10 ∨ k = 11) (H : Q (some (.int (jn k u w))) h) : zC mX6_joined [.int (nI k), .int u, .int w] h Q := by
  have e125 : ∀ x : Int32, x = jn k u w → (x = 0 ∨ x = 1) → zX mX6_joined 125 [.float 0, .float 0, .float 0, .int x] [] h Q := fun x hx h01 => by
    rw [← hx] at H
    refine bX6_joined_125 _ _ _ ⟨fun z => ?_, fun z => ?_⟩
    · rw [z] at H; exact H
    · rw [h01.resolve_left z] at H; exact H
  have nk : ∀ a : Nat, a < 2 ^ 31 → (nI k = nI a → k = a) := fun a ha e => (nI_eq (by omega) ha).mp e
  refine nX6_joined _ _ _ _ _ (bX6_joined_0 _ _ _ _ _ ⟨fun q => ?_, fun q => ?_, fun q => ?_, fun q => ?_, fun q => ?_, fun q => ?_, fun q1 q2 q3 q4 q5 q6 => ?_⟩)
  · have := nk 5 (by decide) q; subst this
    refine bX6_joined_94 _ _ _ _ ⟨fun z => bX6_joined_107 _ _ _ (e125 _ ?_ (Or.inl rfl)), fun z => ⟨fun z2 => bX6_joined_107 _ _ _ (e125 _ ?_ (Or.inl rfl)), fun z2 => bX6_joined_107 _ _ _ (e125 _ ?_ (Or.inr rfl))⟩⟩ <;> simp [jn, *]
  · have := nk 7 (by decide) q; subst this
    refine bX6_joined_52 _ _ _ _ ⟨fun z => e125 _ ?_ (Or.inl rfl), fun z => e125 _ ?_ (Or.inr rfl)⟩
    · simp only [jn, if_pos z]; rfl
    · simp only [jn, if_neg z]; rfl
  · have := nk 8 (by decide) q; subst this
    refine bX6_joined_66 _ _ _ _ ⟨fun z => e125 _ ?_ (Or.inl rfl), fun z => e125 _ ?_ (Or.inr rfl)⟩
    · simp only [jn, if_pos z]; rfl
    · simp only [jn, if_neg z]; rfl
  · have := nk 9 (by decide) q; subst this
    refine bX6_joined_80 _ _ _ _ ⟨fun z => e125 _ ?_ (Or.inr rfl), fun z => e125 _ ?_ (Or.inl rfl)⟩ <;> simp [jn, z]
  · have := nk 10 (by decide) q; subst this
    exact bX6_joined_44 _ _ _ _ (by simpa [jn] using H)
  · have := nk 11 (by decide) q; subst this
    exact bX6_joined_48 _ _ _ _ (by simpa [jn] using H)
  · have : k = 4 := by
      rcases hk with e | e | e | e | e | e | e
      · exact e
      · exact absurd (by rw [e]; rfl) q1
      · exact absurd (by rw [e]; rfl) q2
      · exact absurd (by rw [e]; rfl) q3
      · exact absurd (by rw [e]; rfl) q4
      · exact absurd (by rw [e]; rfl) q5
      · exact absurd (by rw [e]; rfl) q6
    subst this
    refine bX6_joined_111 _ _ _ _ ⟨fun z => ⟨fun z2 => bX6_joined_124 _ _ _ (e125 _ ?_ (Or.inl rfl)), fun z2 => bX6_joined_124 _ _ _ (e125 _ ?_ (Or.inr rfl))⟩, fun z => bX6_joined_124 _ _ _ (e125 _ ?_ (Or.inr rfl))⟩ <;> simp [jn, *]
theorem l6_hear {own n s V0 : Nat} {c : Nat → Nat × Nat × Nat} {Hh : Nat → Nat} (S : cSp h sp) (T : cT h t N V st wt) (hm : ∀ v, v < V → mk v ≤ 3) (ho : own < V) (hV0 : V0 ≤ V) (hs : s = 35 ∨ 126 ≤ s) (ks : iK h s 0) (ns : aN h s = n) (hn : n ≤ 640) (C : ∀ i, i < n → aI h s i = cdC (c i)) (O : ∀ i, i < n → Hh i ≤ 40 ∧ okO V0 N own n i Hh (c i)) :
    ∀ k i ow, i + k = n → ow ≤ n → ∀ (h0 : zH) (l : List Int32), fr [sp + 1] [(sp, 1)] h h0 → l.length = Hh (max i ow) → stS h0 sp l → (∀ h', fr [sp + 1] [(sp, 1)] h h' → Q (some (.int (nI (ex V N st wt mk own c k i ow l)))) h') → zX mX6_hear 17 [.ref sp, .float 0, .int (nI own), .int (nI (en 4 V mk)), .ref t, .ref s, .int (nI ow), .int (nI i), .float 0, .float 0, .float 0] [] h0 Q := by
  have hV := T.V8
  have hN := T.N3
  have hsp : s ∉ [sp + 1] := by
    rcases S.1 with rfl | rfl <;> simp <;> omega
  have how : ∀ v, v < V → (nI v = nI own ↔ v = own) := fun v hv => nI_eq (by omega) (by omega)
  have hT : (okT [sp + 1] [(sp, 1)] 26 && (okT [sp + 1] [(sp, 1)] 70 && okT [sp + 1] [(sp, 1)] 77)) = true := by
    rcases S.1 with rfl | rfl <;> decide
  intro k
  induction k with
  | zero =>
    intro i ow hi how0 h0 l F hl P H
    refine bX6_hear_17 _ _ _ _ _ _ _ _ _ ⟨F.ik ks, br_t ?_ ?_⟩
    · rw [F.n, ns]; exact nI_le (by omega) (by omega)
    · have := H h0 F
      rwa [ex, nI_0] at this
  | succ k ih =>
    intro i ow hi how0 h0 l F hl P H
    have S0 := S.fr F (by simp)
    have T0 := T.fr F hT
    have lt : ¬ nI (aN h0 s) ≤ nI i := by rw [F.n, ns]; exact nI_ge (by omega) (by omega)
    by_cases hsk : i < ow
    · refine bX6_hear_17 _ _ _ _ _ _ _ _ _ ⟨F.ik ks, br_f lt (br_f (nI_ge hsk (by omega)) (bX6_hear_292 _ _ _ _ _ _ _ _ _ ?_))⟩
      rw [nI_1]
      refine ih (i + 1) ow (by omega) how0 h0 l F (by rw [hl]; congr 1; omega) P (fun h' F' => ?_)
      have := H h' F'
      rwa [ex, if_pos hsk] at this
    · have hmx : max i ow = i := by omega
      rw [hmx] at hl
      obtain ⟨h40, hok⟩ := O i (by omega)
      have ei : aI h0 s i = nI ((c i).1 + 16 * (c i).2.1 + 256 * (c i).2.2) := by rw [F.i hsp, C i (by omega)]; rfl
      generalize hc1 : (c i).1 = c1 at *
      generalize hc2 : (c i).2.1 = c2 at *
      generalize hc3 : (c i).2.2 = c3 at *
      have b1 : c1 < 16 := by
        have hok' := hok
        unfold okO at hok'
        rw [hc1, hc2, hc3] at hok'
        omega
      have b2 : c2 < 16 := by
        have hok' := hok
        unfold okO at hok'
        rw [hc1, hc2, hc3] at hok'
        omega
      have b3 : c3 ≤ 9999 := by
        have hok' := hok
        unfold okO at hok'
        rw [hc1, hc2, hc3] at hok'
        omega
      have hok' := hok
      unfold okO at hok'
      rw [hc1, hc2, hc3] at hok'
      have est : ∀ l, st1 V N st wt mk own (c i) ow l = st1 V N st wt mk own (c1, c2, c3) ow l := fun l => by rw [← hc1, ← hc2, ← hc3]
      have H' : ∀ h', fr [sp + 1] [(sp, 1)] h h' → Q (some (.int (nI (match st1 V N st wt mk own (c1, c2, c3) ow l with
          | .inl r => r
          | .inr (ow', l') => ex V N st wt mk own c k (i + 1) ow' l')))) h' := fun h' F' => by
        have := H h' F'
        rw [ex, if_neg hsk, est] at this
        exact this
      have go : ∀ (h1 : zH) (ow' : Nat) (l' : List Int32), fr [sp + 1] [(sp, 1)] h0 h1 → st1 V N st wt mk own (c1, c2, c3) ow l = .inr (ow', l') → ow' ≤ n → l'.length = Hh (max (i + 1) ow') → stS h1 sp l' → zX mX6_hear 292 [.ref sp, .float 0, .int (nI own), .int (nI (en 4 V mk)), .ref t, .ref s, .int (nI ow'), .int (nI i), .float 0, .float 0, .float 0] [] h1 Q := fun h1 ow' l' F1 e hw hl' P1 => by
        refine bX6_hear_292 _ _ _ _ _ _ _ _ _ ?_
        rw [nI_1]
        refine ih (i + 1) ow' (by omega) hw h1 l' (F.tr F1) hl' P1 (fun h' F' => ?_)
        have := H' h' F'
        rw [e] at this
        exact this
      have say : ∀ r, st1 V N st wt mk own (c1, c2, c3) ow l = .inl r → Q (some (.int (nI r))) h0 := fun r e => by
        have := H' h0 F
        rw [e] at this
        exact this
      have mxi : max (i + 1) ow = i + 1 := by omega
      have cl : (nI i).toNatClampNeg = i := nI_clamp (by omega)
      have vi : vp_in (nI i) (aN h0 s) := by rw [F.n, ns]; exact vp_in_nI (by omega) (by omega)
      have w31 : c1 + 16 * c2 + 256 * c3 < 2 ^ 31 := by omega
      have x1 : nI (c1 + 16 * c2 + 256 * c3) &&& 15 = nI c1 := by rw [w_and _ w31]; congr 1; omega
      have x2 : (nI (c1 + 16 * c2 + 256 * c3) >>> ((4 : Int32) &&& 31)) &&& 15 = nI c2 := by rw [w_s4 _ w31]; congr 1; omega
      have x3 : nI (c1 + 16 * c2 + 256 * c3) >>> ((8 : Int32) &&& 31) = nI c3 := by rw [w_s8 _ w31]; congr 1; omega
      have nk : ∀ a : Nat, a < 2 ^ 31 → (nI c1 = nI a → c1 = a) := fun a ha e => (nI_eq (by omega) ha).mp e
      refine bX6_hear_17 _ _ _ _ _ _ _ _ _ ⟨F.ik ks, br_f lt (br_t (nI_le (by omega) (by omega)) ⟨vi, vi, vi, ?_⟩)⟩
      rw [cl, ei, x1, x2, x3]
      refine ⟨fun q => ?_, fun q => ?_, fun q => ?_, fun q => ?_, fun q => ?_, fun q => ?_, fun q => ?_, fun q => ?_, fun q => ?_, fun q1 q2 q3 q4 q5 q6 q7 q8 q9 => ?_⟩
      · have := nk 0 (by decide) q; subst this
        refine bX6_hear_176 _ _ _ _ _ _ _ _ _ _ ⟨S0.2.1, s6_push S0 P (by omega) (fun h1 F1 P1 => ⟨rfl, go h1 ow _ F1 rfl how0 ?_ P1⟩)⟩
        rw [mxi, List.length_cons]; omega
      · have := nk 1 (by decide) q; subst this
        refine bX6_hear_185 _ _ _ _ _ _ _ _ _ _ _ ⟨T0.o, s10_votes T0 how hm (by omega) (by omega) ⟨_, rfl, S0.2.1, s6_push S0 P (by omega) (fun h1 F1 P1 => ⟨rfl, go h1 ow _ F1 rfl how0 ?_ P1⟩)⟩⟩
        rw [mxi, List.length_cons]; omega
      · have := nk 2 (by decide) q; subst this
        have g : Hh (i + 1) = Hh i + 1 ∧ c3 < V := by omega
        refine bX6_hear_203 _ _ _ _ _ _ _ _ _ _ _ ⟨T0.o, s10_markOf T0 g.2 hm ⟨_, rfl, fun z => ⟨S0.2.1, s6_push S0 P (by omega) (fun h1 F1 P1 => ⟨rfl, go h1 ow _ F1 ?_ how0 ?_ P1⟩)⟩, fun z => ⟨S0.2.1, s6_push S0 P (by omega) (fun h1 F1 P1 => ⟨rfl, go h1 ow _ F1 ?_ how0 ?_ P1⟩)⟩⟩⟩
        · have := hm _ g.2
          rw [nI_eq (by omega) (by omega)] at z
          simp [st1, z]
        · rw [mxi, List.length_cons]; omega
        · have := hm _ g.2
          rw [nI_eq (by omega) (by omega)] at z
          simp [st1, z]
        · rw [mxi, List.length_cons]; omega
      · have := nk 3 (by decide) q; subst this
        have g : Hh i = 1 ∧ Hh (i + 1) = 0 ∧ i < c3 ∧ c3 ≤ n ∧ Hh c3 = 0 := by omega
        refine bX6_hear_247 _ _ _ _ _ _ _ _ _ ⟨S0.2.1, s6_pop S0 P (by omega) (by omega) (fun h1 F1 P1 => ⟨_, rfl, fun z => ?_, fun z => ?_⟩)⟩
        · refine go h1 c3 _ F1 (by simp only [st1]; rw [if_neg (by decide), if_neg (by decide), if_neg (by decide), if_pos trivial, if_pos z]) g.2.2.2.1 ?_ P1
          rw [List.length_tail, show max (i + 1) c3 = c3 by omega]; omega
        · refine go h1 0 _ F1 (by simp only [st1]; rw [if_neg (by decide), if_neg (by decide), if_neg (by decide), if_pos trivial, if_neg z]) (by omega) ?_ P1
          rw [List.length_tail, show max (i + 1) 0 = i + 1 by omega]; omega
      · have := nk 6 (by decide) q; subst this
        have g : Hh (i + 1) = Hh i ∧ 0 < Hh i := by omega
        refine bX6_hear_228 _ _ _ _ _ _ _ _ _ ⟨S0.2.1, s6_pop S0 P (by omega) (by omega) (fun h1 F1 P1 => ⟨_, rfl, fun z => ?_, fun z => ?_⟩)⟩
        · have S1 := S0.fr F1 (by simp)
          refine ⟨S1.2.1, s6_push S1 P1 (by rw [List.length_tail]; omega) (fun h2 F2 P2 => ⟨rfl, go h2 ow _ (F1.tr F2) (by simp only [st1]; rw [if_neg (by decide), if_neg (by decide), if_neg (by decide), if_neg (by decide), if_pos trivial, if_pos z]) how0 ?_ P2⟩)⟩
          rw [mxi, List.length_cons, List.length_tail]; omega
        · have S1 := S0.fr F1 (by simp)
          refine ⟨S1.2.1, s6_push S1 P1 (by rw [List.length_tail]; omega) (fun h2 F2 P2 => ⟨rfl, go h2 ow _ (F1.tr F2) (by simp only [st1]; rw [if_neg (by decide), if_neg (by decide), if_neg (by decide), if_neg (by decide), if_pos trivial, if_neg z]) how0 ?_ P2⟩)⟩
          rw [mxi, List.length_cons, List.length_tail]; omega
      · have := nk 12 (by decide) q; subst this
        exact bX6_hear_144 _ _ _ (say _ rfl)
      · have := nk 13 (by decide) q; subst this
        have g : c3 < V := by omega
        exact bX6_hear_147 _ _ _ _ _ ⟨T0.o, s10_markOf T0 g hm ⟨_, rfl, say _ rfl⟩⟩
      · have := nk 14 (by decide) q; subst this
        exact bX6_hear_156 _ _ _ _ _ _ ⟨T0.o, s10_mostVoted T0 how hm (by omega) ⟨_, rfl, say _ rfl⟩⟩
      · have := nk 15 (by decide) q; subst this
        exact bX6_hear_166 _ _ _ _ _ _ ⟨T0.o, s10_fewestVoted T0 how hm (by omega) ⟨_, rfl, say _ rfl⟩⟩
      · have ne : ∀ a : Nat, ¬ nI c1 = nI a → c1 ≠ a := fun a z e => z (by rw [e])
        have n0 := ne 0 q1
        have n1 := ne 1 q2
        have n2 := ne 2 q3
        have n3 := ne 3 q4
        have n6 := ne 6 q5
        have n12 := ne 12 q6
        have n13 := ne 13 q7
        have n14 := ne 14 q8
        have n15 := ne 15 q9
        have g : (c1 = 4 ∨ c1 = 5 ∨ c1 = 7 ∨ c1 = 8 ∨ c1 = 9 ∨ c1 = 10 ∨ c1 = 11) ∧ 2 ≤ Hh i ∧ Hh (i + 1) + 1 = Hh i := by omega
        have e' : st1 V N st wt mk own (c1, c2, c3) ow l = .inr (ow, jn c1 (l.tail.headD 0) (l.headD 0) :: l.tail.tail) := by
          simp only [st1]
          rw [if_neg n0, if_neg n1, if_neg n2, if_neg n3, if_neg n6, if_neg n12, if_neg n13, if_neg n14, if_neg n15]
        refine bX6_hear_265 _ _ _ _ _ _ _ _ _ ⟨S0.2.1, s6_pop S0 P (by omega) (by omega) (fun h1 F1 P1 => ⟨_, rfl, F1.ik (F.ik ks), by rw [F1.n]; exact vi, ?_⟩)⟩
        have S1 := S0.fr F1 (by simp)
        refine ⟨S1.2.1, s6_pop S1 P1 (by rw [List.length_tail]; omega) (by rw [List.length_tail]; omega) (fun h2 F2 P2 => ⟨_, rfl, ?_⟩)⟩
        have S2 := S1.fr F2 (by simp)
        rw [cl, F1.i hsp, ei, x1]
        refine s6_joined g.1 ⟨_, rfl, S2.2.1, s6_push S2 P2 (by rw [List.length_tail, List.length_tail]; omega) (fun h3 F3 P3 => ⟨rfl, go h3 ow _ ((F1.tr F2).tr F3) e' how0 ?_ P3⟩)⟩
        rw [mxi, List.length_cons, List.length_tail, List.length_tail]; omega
theorem s6_hear {own n V0 u : Nat} {R : List Nat} {c : Nat → Nat × Nat × Nat} (S : cSp h sp) (T : cT h t N V st wt) (hm : ∀ v, v < V → mk v ≤ 3) (ho : own < V) (hV0 : V0 ≤ V) (B : cB h R bl n c u) (O : okC V0 N own n c) (H : ∀ h', fr [sp + 1] [(sp, 1)] h h' → Q (some (.int (nI (sayF V N st wt mk own n c)))) h') : zC mX6_hear [.ref sp, .ref bl, .int (nI own), .int (nI (en 4 V mk)), .ref t] h Q := by
  obtain ⟨hn, Hh, h0, O⟩ := O
  obtain ⟨b1, b2, -, ⟨s, b3, b4, -, b5, b6, b7, b8⟩, -⟩ := B
  refine nX6_hear _ _ _ _ _ _ _ (bX6_hear_0 _ _ _ _ _ _ _ ⟨b1, _, b3, S.2.1, fun h4 e4 => ?_⟩)
  have F4 : fr [sp + 1] [(sp, 1)] h h4 := by rw [e4]; exact fr_pF (by simp) S.2.1 rfl rfl
  exact l6_hear S T hm ho hV0 b4 b5 b6 hn b8 O n 0 0 (by omega) (by omega) h4 [] F4 (by rw [Nat.max_self, h0]; rfl) ⟨by rw [e4, gI_pF_s S.2.1 (by decide)]; rfl, trivial⟩ H
end

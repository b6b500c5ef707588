/-! ===== the class: hands gathered; a wider town ===== -/
section
variable {h h' : zH} {Q : Option Value → zH → Prop} {X : List Nat} {Y : List (Nat × Nat)} {t V N : Nat} {st wt mk : Nat → Nat} {f : (Nat → Nat) → Nat → Nat} {o : Nat → Option Nat} {cn cu : Nat → Nat} {cd : Nat → Nat → Nat × Nat × Nat}
def bdB (V : Nat) (bd : Nat → Option Nat) : Nat := en 4 V (fun v => if (bd v).isSome = true then 3 else 0)
def bdM (V : Nat) (bd : Nat → Option Nat) : Nat := en 4 V (fun v => (bd v).getD 0)
def YG : List (Nat × Nat) := [(37, 5), (37, 6)]
theorem bd_lt1 {bd : Nat → Option Nat} : ∀ v, v < V → (if (bd v).isSome = true then 3 else 0) < 4 := fun v _ => by split <;> omega
theorem bd_lt2 {bd : Nat → Option Nat} (h : ∀ v m, bd v = some m → m ≤ 3) : ∀ v, v < V → (bd v).getD 0 < 4 := fun v _ => by
  cases e : bd v with
  | none => simp
  | some m => have := h v m e; simp; omega
theorem en4_31 (hV : V ≤ 8) {g : Nat → Nat} (hg : ∀ v, v < V → g v < 4) : en 4 V g < 2 ^ 31 := by
  have := Nat.lt_of_lt_of_le (en_lt hg) (Nat.le_trans (Nat.pow_le_pow_right (by decide) hV) (by decide : 4 ^ 8 ≤ 65536))
  omega
theorem en4_ext (hV : V ≤ 8) {g g' : Nat → Nat} (hg : ∀ v, v < V → g v < 4) (hg' : ∀ v, v < V → g' v < 4) : nI (en 4 V g) = nI (en 4 V g') ↔ ∀ v, v < V → g v = g' v := by
  rw [nI_eq (en4_31 hV hg) (en4_31 hV hg')]
  exact ⟨fun e => en_inj hg hg' e, fun e => en_congr e⟩
theorem a33 : ∀ x, x < 4 → x &&& 3 = x := by decide
theorem s2_agreeWith {bd : Nat → Option Nat} (hV : V ≤ 8) (o : oK h 37 2) (g5 : gI h 37 5 = nI (bdB V bd)) (g6 : gI h 37 6 = nI (bdM V bd)) (hb : ∀ v m, bd v = some m → m ≤ 3) (hm : ∀ v, v < V → mk v ≤ 3) (H1 : (∀ v m, v < V → bd v = some m → mk v = m) → Q (some (.int 1)) h) (H0 : ¬ (∀ v m, v < V → bd v = some m → mk v = m) → Q (some (.int 0)) h) : zC mX2_agreeWith [.ref 37, .int (nI (en 4 V mk))] h Q := by
  have m4 : ∀ v, v < V → mk v < 4 := fun v hv => Nat.lt_succ_of_le (hm v hv)
  refine nX2_agreeWith _ _ _ _ (bX2_agreeWith_0 _ _ _ _ ⟨o, ?_⟩)
  have e : nI (en 4 V mk) &&& gI h 37 5 = gI h 37 6 ↔ ∀ v m, v < V → bd v = some m → mk v = m := by
    rw [g5, g6]
    unfold bdB bdM
    rw [nI_and, en4_and m4 bd_lt1, en4_ext hV (fun v hv => Nat.and_lt_two_pow (n := 2) _ (bd_lt1 v hv)) (bd_lt2 hb)]
    constructor
    · intro z v m hv hbd
      have := z v hv
      rw [hbd] at this
      simp only [Option.isSome_some, if_true, Option.getD_some, a33 _ (m4 v hv)] at this
      exact this
    · intro z v hv
      cases hbd : bd v with
      | none => simp
      | some m => simp only [Option.isSome_some, if_true, Option.getD_some, a33 _ (m4 v hv)]; exact z v m hv hbd
  rw [e]
  exact ⟨H1, H0⟩
theorem s2_gather {HL : List zHd} {k : Int32} (A : cHl h 37 HL) (O : hdO V N HL) (T : cT h t N V st wt)
    (H1 : ∀ (bd : Nat → Option Nat) h', fr [] YG h h' → gI h' 37 5 = nI (bdB V bd) → gI h' 37 6 = nI (bdM V bd) → (∀ v m, bd v = some m → m ≤ 3) → (∀ mk, agB V k HL mk = true ↔ ∀ v m, v < V → bd v = some m → mk v = m) → Q (some (.int 1)) h')
    (H0 : ∀ h', fr [] YG h h' → (∀ mk, agB V k HL mk = false) → Q (some (.int 0)) h') : zC mX2_gather [.ref 37, .int k, .ref t] h Q := by
  have hV := T.V8
  have hN := T.N3
  have h20 := O.1
  have Ar : ∀ h0, fr [] YG h h0 → cHl h0 37 HL := fun h0 F => A.fz (F.z (Nat.le_refl _)) (by simp) (fun f hf => by simp [YG]; omega)
  have Tr : ∀ h0, fr [] YG h h0 → cT h0 t N V st wt := fun h0 F => T.fz (F.z (Nat.le_refl _)) (by rcases T.1 with rfl | rfl | rfl <;> decide)
  have agt : ∀ n q mk, HL[n]? = some q → agB V k (HL.take (n + 1)) mk = (agB V k (HL.take n) mk && (!hdC k q || decide (mk q.1 = q.2.1))) := fun n q mk hq => by
    have hl := (List.getElem?_eq_some_iff.mp hq).1
    have e : HL.take (n + 1) = HL.take n ++ [q] := by
      have := (List.getElem?_eq_some_iff.mp hq).2
      rw [← this]; exact (List.take_append_getElem hl).symm
    rw [e]
    unfold agB
    rw [List.all_append]
    simp
  have dead : ∀ n mk, n ≤ HL.length → agB V k (HL.take n) mk = false → agB V k HL mk = false := fun n mk hn e => by
    have e2 : HL = HL.take n ++ HL.drop n := (List.take_append_drop n HL).symm
    unfold agB at e ⊢
    rw [e2, List.all_append, e, Bool.false_and]
  have L : ∀ (d n : Nat) (bd : Nat → Option Nat) (h0 : zH), n + d = HL.length → fr [] YG h h0 → gI h0 37 5 = nI (bdB V bd) → gI h0 37 6 = nI (bdM V bd) → (∀ v m, bd v = some m → m ≤ 3) → (∀ mk, agB V k (HL.take n) mk = true ↔ ∀ v m, v < V → bd v = some m → mk v = m) → zX mX2_gather 12 [.ref 37, .int k, .ref t, .int (nI n), .float 0, .float 0] [] h0 Q := by
    intro d
    induction d with
    | zero =>
      intro n bd h0 hn F g5 g6 hb e
      have : n = HL.length := by omega
      subst this
      have A0 := Ar h0 F
      rw [List.take_length] at e
      exact bX2_gather_12 _ _ _ _ _ _ ⟨A0.1, br_t (by rw [A0.2.2.2.1]; exact nI_le (Nat.le_refl _) (by omega)) (H1 bd h0 F g5 g6 hb e)⟩
    | succ d ih =>
      intro n bd h0 hn F g5 g6 hb e
      have A0 := Ar h0 F
      have T0 := Tr h0 F
      obtain ⟨q, hq, -⟩ := drop_of (l := HL) (n := n) (by omega)
      have a := A0.2.2.2.2 n q hq
      rw [Nat.zero_add] at a
      have oo := O.2 q (List.mem_of_getElem? hq)
      refine bX2_gather_12 _ _ _ _ _ _ ⟨A0.1, br_f (by rw [A0.2.2.2.1]; exact nI_ge (by omega) (by omega)) (s2_countsAt A0 O hq (fun hc => ⟨_, rfl, br_f (by decide +kernel) ⟨A0.1, _, A0.2.1.1, s11_atN (A0.k (k := 0) (by omega)) (A0.n (k := 0) (by omega)) (by omega) (by decide) ⟨_, rfl, T0.o, ?_⟩⟩⟩) (fun hc => ⟨_, rfl, br_t rfl ?_⟩))⟩
      · have e0 : aI h0 (37 + 1 + 0) n = nI q.1 := a.1
        have e1 : aI h0 (37 + 1 + 1) n = nI q.2.1 := a.2.1
        rw [e0, nI_1shl (by omega)]
        refine s10_bitsInRows T0 (Nat.pow_lt_pow_right (by decide) (by omega)) ⟨_, rfl, A0.1, _, A0.2.1.1, s11_atN (A0.k (k := 0) (by omega)) (A0.n (k := 0) (by omega)) (by omega) (by decide) ⟨_, rfl, A0.1, _, A0.2.1.2.1, s11_atN (A0.k (k := 1) (by omega)) (A0.n (k := 1) (by omega)) (by omega) (by decide) ⟨_, rfl, T0.o, ?_⟩⟩⟩
        rw [e0, e1]
        have hmk : q.2.1 ≤ 3 := by omega
        have w0 := s10_withMark (mk := fun _ => 0) (Q := fun r0 h22 => ∃ x23 : Int32, r0 = some (.int x23) ∧ (oK h22 37 2 ∧ ((((gI h22 37 5) &&& (nI (en 4 V (fun v => if (2 ^ q.1).testBit v = true then 3 else 0)))) = 0 → (zX mX2_gather 92 [.ref 37, .int k, .ref t, .int (nI n), .int (nI (en 4 V (fun v => if (2 ^ q.1).testBit v = true then 3 else 0))), .int x23] [] h22 Q)) ∧ (¬ (((gI h22 37 5) &&& (nI (en 4 V (fun v => if (2 ^ q.1).testBit v = true then 3 else 0)))) = 0) → ((((gI h22 37 6) &&& (nI (en 4 V (fun v => if (2 ^ q.1).testBit v = true then 3 else 0)))) = x23 → (zX mX2_gather 92 [.ref 37, .int k, .ref t, .int (nI n), .int (nI (en 4 V (fun v => if (2 ^ q.1).testBit v = true then 3 else 0))), .int x23] [] h22 Q)) ∧ (¬ (((gI h22 37 6) &&& (nI (en 4 V (fun v => if (2 ^ q.1).testBit v = true then 3 else 0)))) = x23) → (Q (some (.int (0 : Int32))) h22))))))) T0 oo.1 (fun _ _ => Nat.zero_le _) hmk ⟨_, rfl, A0.1, ?_⟩
        · rw [en_0] at w0
          exact w0
        · have ebt : en 4 V (fun v => if (2 ^ q.1).testBit v = true then 3 else 0) = en 4 V (fun v => if v = q.1 then 3 else 0) := by
            refine en_congr (fun v _ => ?_)
            rw [Nat.testBit_two_pow]
            by_cases z : v = q.1
            · simp [z]
            · have : ¬ q.1 = v := fun y => z y.symm
              simp [z, this]
          have bq : ∀ v, v < V → (if v = q.1 then 3 else 0) < 4 := fun v _ => by split <;> omega
          have uq : ∀ v, v < V → ud (fun _ => 0) q.1 q.2.1 v < 4 := fun v _ => by unfold ud; split; (· omega); (· show 0 < 4; decide)
          rw [ebt, g5, g6]
          have c5 : nI (bdB V bd) &&& nI (en 4 V (fun v => if v = q.1 then 3 else 0)) = 0 ↔ bd q.1 = none := by
            unfold bdB
            rw [nI_and, en4_and bd_lt1 bq, ← nI_0, nI_eq (en4_31 hV (fun v hv => Nat.and_lt_two_pow (n := 2) _ (bq v hv))) (by decide), en_e0 (by decide)]
            constructor
            · intro z
              have := z q.1 oo.1
              simp only [if_true] at this
              cases hbq : bd q.1 with
              | none => rfl
              | some m => rw [hbq] at this; simp at this
            · intro z v hv
              by_cases w : v = q.1
              · simp [w, z]
              · simp [w]
          have c6 : nI (bdM V bd) &&& nI (en 4 V (fun v => if v = q.1 then 3 else 0)) = nI (en 4 V (ud (fun _ => 0) q.1 q.2.1)) ↔ (bd q.1).getD 0 = q.2.1 := by
            unfold bdM
            rw [nI_and, en4_and (bd_lt2 hb) bq, en4_ext hV (fun v hv => Nat.and_lt_two_pow (n := 2) _ (bq v hv)) uq]
            constructor
            · intro z
              have := z q.1 oo.1
              simp only [if_true, ud_s, a33 _ (bd_lt2 hb q.1 oo.1)] at this
              exact this
            · intro z v hv
              by_cases w : v = q.1
              · rw [w, ud_s, if_pos rfl, a33 _ (bd_lt2 hb q.1 oo.1)]; exact z
              · rw [ud_n w, if_neg w, Nat.and_zero]
          rw [c5, c6]
          -- bound
          have bind : (∀ m, bd q.1 = some m → m = q.2.1) → zX mX2_gather 92 [.ref 37, .int k, .ref t, .int (nI n), .int (nI (en 4 V (fun v => if v = q.1 then 3 else 0))), .int (nI (en 4 V (ud (fun _ => 0) q.1 q.2.1)))] [] h0 Q := fun hbq => by
            refine bX2_gather_92 _ _ _ _ _ _ _ _ ⟨A0.1, fun h2 e2 h4 e4 => ?_⟩
            have F2 : fr [] YG h0 h2 := by rw [e2]; exact fr_pF (by decide) A0.1 rfl rfl
            have o2 := F2.o A0.1
            have F4 : fr [] YG h2 h4 := by rw [e4]; exact fr_pF (by decide) o2 rfl rfl
            have k5 : gI h4 37 5 = nI (bdB V (fun v => if v = q.1 then some q.2.1 else bd v)) := by
              rw [e4, gI_pF_n (Or.inr (by decide)), e2, gI_pF_s A0.1 (by decide), g5]
              unfold bdB
              rw [nI_or, en4_or bd_lt1 bq]
              congr 1
              refine en_congr (fun v _ => ?_)
              by_cases w : v = q.1
              · simp only [w, if_true, Option.isSome_some]
                cases (bd q.1).isSome <;> decide
              · simp [w]
            have k6 : gI h4 37 6 = nI (bdM V (fun v => if v = q.1 then some q.2.1 else bd v)) := by
              rw [e4, gI_pF_s o2 (by decide), e2, gI_pF_n (Or.inr (by decide)), g6]
              unfold bdM
              rw [nI_or, en4_or (bd_lt2 hb) uq]
              congr 1
              refine en_congr (fun v _ => ?_)
              by_cases w : v = q.1
              · simp only [w, if_true, Option.getD_some, ud_s]
                cases hbv : bd q.1 with
                | none => simp
                | some m => rw [hbq m hbv]; simp
              · simp only [w, if_false, ud_n w, Nat.or_zero]
            rw [nI_1]
            refine ih (n + 1) _ h4 (by omega) (F.tr (F2.tr F4)) k5 k6 (fun v m hv => ?_) (fun mk => ?_)
            · by_cases w : v = q.1
              · simp only [w, if_true, Option.some.injEq] at hv; omega
              · simp only [w, if_false] at hv; exact hb v m hv
            · rw [agt n q mk hq, Bool.and_eq_true, e mk, hc]
              simp only [Bool.not_true, Bool.false_or, decide_eq_true_eq]
              constructor
              · rintro ⟨z1, z2⟩ v m hv hbv
                by_cases w : v = q.1
                · simp only [w, if_true, Option.some.injEq] at hbv
                  rw [w, z2]; exact hbv
                · simp only [w, if_false] at hbv
                  exact z1 v m hv hbv
              · intro z
                refine ⟨fun v m hv hbv => ?_, z q.1 q.2.1 oo.1 (by simp)⟩
                by_cases w : v = q.1
                · rw [w] at hbv
                  rw [w, hbq m hbv]; exact z q.1 q.2.1 oo.1 (by simp)
                · exact z v m hv (by simp only [w, if_false]; exact hbv)
          refine ⟨fun z => bind (fun m hm => by rw [z] at hm; cases hm), fun z => ⟨fun z2 => bind (fun m hm => by rw [hm] at z2; exact z2), fun z2 => H0 h0 F (fun mk => ?_)⟩⟩
          cases hbq : bd q.1 with
          | none => exact absurd hbq z
          | some m =>
            rw [hbq] at z2
            refine dead (n + 1) mk (by omega) ?_
            rw [agt n q mk hq, hc]
            cases hag : agB V k (HL.take n) mk
            · rfl
            · have := (e mk).mp hag q.1 m oo.1 hbq
              have ne : ¬ mk q.1 = q.2.1 := by rw [this]; exact z2
              rw [decide_eq_false ne]; rfl
      · rw [nI_1]
        refine ih (n + 1) bd h0 (by omega) F g5 g6 hb (fun mk => ?_)
        rw [agt n q mk hq, hc]
        simp only [Bool.not_false, Bool.true_or, Bool.and_true]
        exact e mk
  refine nX2_gather _ _ _ _ _ (bX2_gather_0 _ _ _ _ _ ⟨A.1, fun h2 e2 h4 e4 => ?_⟩)
  have F2 : fr [] YG h h2 := by rw [e2]; exact fr_pF (by decide) A.1 rfl rfl
  have o2 := F2.o A.1
  have F4 : fr [] YG h2 h4 := by rw [e4]; exact fr_pF (by decide) o2 rfl rfl
  refine L HL.length 0 (fun _ => none) h4 (by omega) (F2.tr F4) ?_ ?_ (fun _ _ z => by cases z) (fun mk => ?_)
  · rw [e4, gI_pF_n (Or.inr (by decide)), e2, gI_pF_s A.1 (by decide)]
    unfold bdB
    rw [en_congr (m' := fun _ => 0) (fun v _ => by simp), en_0]; rfl
  · rw [e4, gI_pF_s o2 (by decide)]
    unfold bdM
    rw [en_congr (m' := fun _ => 0) (fun v _ => by simp), en_0]; rfl
  · simp [agB]
/-! a wider town -/
def cTl (h : zH) (t : Nat) : Prop := oK h t 10 ∧ (gR h t 3 = some (t + 4) ∧ iK h (t + 4) 0 ∧ aN h (t + 4) = 8) ∧ (gR h t 4 = some (t + 5) ∧ iK h (t + 5) 0 ∧ aN h (t + 5) = 8)
theorem cTl.fr (L : cTl h t) (F : fr X Y h h') (h3 : (t, 3) ∉ Y) (h4 : (t, 4) ∉ Y) : cTl h' t := ⟨F.o L.1, ⟨by rw [F.gr h3]; exact L.2.1.1, F.ik L.2.1.2.1, by rw [F.n]; exact L.2.1.2.2⟩, ⟨by rw [F.gr h4]; exact L.2.2.1, F.ik L.2.2.2.1, by rw [F.n]; exact L.2.2.2.2⟩⟩
theorem s10_addVoter {x y : Int32} (L : cTl h t) (g : gI h t 8 = nI V) (hV : V < 8) (H : ∀ h', fr [t + 4, t + 5] [(t, 8)] h h' → gI h' t 8 = nI (V + 1) → aI h' (t + 4) V = x → aI h' (t + 5) V = y → (∀ i, i ≠ V → aI h' (t + 4) i = aI h (t + 4) i ∧ aI h' (t + 5) i = aI h (t + 5) i) → Q none h') : zC mX10_addVoter [.ref t, .int x, .int y] h Q := by
  obtain ⟨l1, ⟨l2, l3, l4⟩, ⟨l5, l6, l7⟩⟩ := L
  refine nX10_addVoter _ _ _ _ _ (bX10_addVoter_0 _ _ _ _ _ ⟨l1, _, l2, ?_⟩)
  rw [g]
  refine s11_putN l3 l4 hV (by decide) (fun h3 e3 => ⟨rfl, ?_⟩)
  have F3 : fr [t + 4, t + 5] [(t, 8)] h h3 := by rw [e3]; exact fr_pI (by simp)
  have g3 : gI h3 t 8 = nI V := by rw [e3, gI_pI]; exact g
  refine ⟨F3.o l1, _, by rw [F3.gr (by simp)]; exact l5, ?_⟩
  rw [g3]
  refine s11_putN (F3.ik l6) (by rw [F3.n]; exact l7) hV (by decide) (fun h6 e6 => ⟨rfl, ?_⟩)
  have F6 : fr [t + 4, t + 5] [(t, 8)] h3 h6 := by rw [e6]; exact fr_pI (by simp)
  have o6 := F6.o (F3.o l1)
  have g6 : gI h6 t 8 = nI V := by rw [e6, gI_pI]; exact g3
  refine ⟨o6, fun h8 e8 => ?_⟩
  rw [g6] at e8
  have F8 : fr [t + 4, t + 5] [(t, 8)] h6 h8 := by rw [e8]; exact fr_pF (by simp) o6 rfl rfl
  have r8 : ∀ a, aI h8 a = aI h6 a := fun a => by rw [e8]; exact funext fun i => aI_pF
  refine H h8 ((F3.tr F6).tr F8) (by rw [e8, gI_pF_s o6 (by decide)]; exact nI_1 V) ?_ ?_ (fun i hi => ⟨?_, ?_⟩)
  · rw [r8, e6, aI_pI_n (Or.inl (by omega)), e3]; exact aI_pI_s ⟨_, l3⟩
  · rw [r8, e6]; exact aI_pI_s ⟨_, F3.ik l6⟩
  · rw [r8, e6, aI_pI_n (Or.inl (by omega)), e3, aI_pI_n (Or.inr hi)]
  · rw [r8, e6, aI_pI_n (Or.inr hi), e3, aI_pI_n (Or.inl (by omega))]
theorem s10_becomeWider {its : Nat} (L : cTl h 26) (T : cT h t N V st wt) (ht : t = 70 ∨ t = 77) (hV : V < 8) (hi : its < 4) (H : ∀ h', fr [30, 31] [(26, 6), (26, 8)] h h' → cT h' 26 N (V + 1) (ud st V its) (ud wt V 1) → Q none h') : zC mX10_becomeWider [.ref 26, .ref t, .int (nI its)] h Q := by
  have hN := T.N3
  refine nX10_becomeWider _ _ _ _ _ (bX10_becomeWider_0 _ _ _ _ _ ⟨T.o, L.1, fun h3 e3 h6 e6 => ?_⟩)
  have F3 : fr [30, 31] [(26, 6), (26, 8)] h h3 := by rw [e3]; exact fr_pF (by decide) L.1 rfl rfl
  have o3 := F3.o L.1
  have F6 : fr [30, 31] [(26, 6), (26, 8)] h3 h6 := by rw [e6]; exact fr_pF (by decide) o3 rfl rfl
  have Lr : ∀ h0, fr [30, 31] [(26, 6), (26, 8)] h h0 → cTl h0 26 := fun h0 F => L.fr F (by decide) (by decide)
  have Tr : ∀ h0, fr [30, 31] [(26, 6), (26, 8)] h h0 → cT h0 t N V st wt := fun h0 F => T.fz (F.z (Nat.le_refl _)) (by rcases ht with rfl | rfl <;> decide)
  have FF := F3.tr F6
  have g6 : gI h6 26 6 = nI N := by rw [e6, gI_pF_n (Or.inr (by decide)), e3, gI_pF_s L.1 (by decide)]; exact T.e6
  have g8 : gI h6 26 8 = nI V := by rw [e6, gI_pF_s o3 (by decide)]; exact (Tr h3 F3).e8
  have go : ∀ (d i : Nat) (h0 : zH), i + d = V → fr [30, 31] [(26, 6), (26, 8)] h h0 → gI h0 26 6 = nI N → gI h0 26 8 = nI V → (∀ v, v < i → aI h0 30 v = nI (st v) ∧ aI h0 31 v = nI (wt v)) → zX mX10_becomeWider 18 [.ref 26, .ref t, .int (nI its), .int (nI i)] [] h0 Q := by
    intro d
    induction d with
    | zero =>
      intro i h0 hi' F g6 g8 A
      have : i = V := by omega
      subst this
      have L0 := Lr h0 F
      refine bX10_becomeWider_18 _ _ _ _ _ _ ⟨L0.1, br_t (by rw [g8]; exact nI_le (Nat.le_refl _) (by omega)) (s10_addVoter L0 g8 hV (fun h3 F3 k8 k1 k2 k3 => ⟨rfl, ?_⟩))⟩
      have L3 := L0.fr F3 (by simp) (by simp)
      refine H h3 (F.tr (F3.mo (by simp) (by simp))) ⟨Or.inl rfl, L3.1, L3.2.1, L3.2.2, by rw [F3.gi (by simp)]; exact g6, hN, k8, by omega, fun v hv => ?_⟩
      by_cases z : v = i
      · rw [z, ud_s, ud_s]; exact ⟨k1, k2, hi, by decide⟩
      · rw [ud_n z, ud_n z, (k3 v z).1, (k3 v z).2]
        have := A v (by omega)
        have tv := T.v v (by omega)
        exact ⟨this.1, this.2, tv.2.2⟩
    | succ d ih =>
      intro i h0 hi' F g6 g8 A
      have L0 := Lr h0 F
      have T0 := Tr h0 F
      have tv := T0.v i (by omega)
      refine bX10_becomeWider_18 _ _ _ _ _ _ ⟨L0.1, br_f (by rw [g8]; exact nI_ge (by omega) (by omega)) ⟨_, L0.2.1.1, T0.o, _, T0.r3, s11_atN T0.k3 T0.n3 (by omega) (by decide) ⟨_, rfl, s11_putN L0.2.1.2.1 L0.2.1.2.2 (by omega) (by decide) (fun h9 e9 => ⟨rfl, ?_⟩)⟩⟩⟩
      have F9 : fr [30, 31] [(26, 6), (26, 8)] h0 h9 := by rw [e9]; exact fr_pI (by simp)
      have L9 := Lr h9 (F.tr F9)
      have T9 := Tr h9 (F.tr F9)
      refine ⟨L9.1, _, L9.2.2.1, T9.o, _, T9.r4, s11_atN T9.k4 T9.n4 (by omega) (by decide) ⟨_, rfl, s11_putN L9.2.2.2.1 L9.2.2.2.2 (by omega) (by decide) (fun h16 e16 => ⟨rfl, ?_⟩)⟩⟩
      have F16 : fr [30, 31] [(26, 6), (26, 8)] h9 h16 := by rw [e16]; exact fr_pI (by simp)
      rw [(T9.v i (by omega)).2.1] at e16
      rw [tv.1] at e9
      rw [nI_1]
      refine ih (i + 1) h16 (by omega) ((F.tr F9).tr F16) (by rw [e16, gI_pI, e9, gI_pI]; exact g6) (by rw [e16, gI_pI, e9, gI_pI]; exact g8) (fun v hv => ?_)
      by_cases z : v = i
      · rw [z]
        refine ⟨?_, ?_⟩
        · rw [e16, aI_pI_n (Or.inl (by decide)), e9]; exact aI_pI_s ⟨_, L0.2.1.2.1⟩
        · rw [e16]; exact aI_pI_s ⟨_, L9.2.2.2.1⟩
      · rw [e16, aI_pI_n (Or.inl (by decide)), e9, aI_pI_n (Or.inr z), aI_pI_n (Or.inr z), aI_pI_n (Or.inl (by decide))]
        exact A v (by omega)
  exact go V 0 h6 (by omega) FF g6 g8 (fun v hv => absurd hv (Nat.not_lt_zero _))
end

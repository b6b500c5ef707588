/-! ===== the class: sway, the search ===== -/
section
variable {h h' : zH} {Q : Option Value → zH → Prop} {X : List Nat} {Y : List (Nat × Nat)} {t V N : Nat} {st wt : Nat → Nat} {f : (Nat → Nat) → Nat → Nat}
theorem s7_leastMarks {name s sc nc : Nat} (L : cSl h) (T : cT h t N V st wt) (ht : t ≠ 24 ∧ t + 4 ≠ 24 ∧ t + 5 ≠ 24) (o12 : oK h 12 5) (r2 : gR h 12 2 = some sc) (r4 : gR h 12 4 = some nc) (k2 : iK h sc 0) (k4 : iK h nc 0) (hsz : 4 ^ V ≤ aN h sc) (hs2 : aN h sc ≤ 65536) (hn4 : aN h nc ≤ 131072) (dsc : sc ≠ 24) (dnc : nc ≠ 24)
    (D : sdR h sc N V (fun r => f (dg 4 V r))) (g6 : gI h 12 6 = nI (nlN N V f (4 ^ V)).length) (l6 : lsR (aI h nc) ((nlN N V f (4 ^ V)).map (nrE N V st wt))) (l7 : (nlN N V f (4 ^ V)).length ≤ aN h nc)
    (hf : fC V f) (hname : name < N) (hs : s < 2 ^ V) (h3 : pcF s ≤ 3) (H : ∀ h', fr [24] [] h h' → Q (some (.int (oI (fsN (swB N V f st wt name s) 64 0)))) h') : zC mX7_leastMarks [.ref 21, .int (nI name), .int (nI s), .ref 12, .ref t] h Q := by
  have hV := T.V8
  have hN := T.N3
  have p2 : 2 ^ V ≤ 256 := Nat.le_trans (Nat.pow_le_pow_right (by decide) hV) (by decide)
  have p4 : 4 ^ V ≤ 65536 := Nat.le_trans (Nat.pow_le_pow_right (by decide) hV) (by decide)
  have s31 : s < 2 ^ 31 := by omega
  have Tr : ∀ h0, fr [24] [] h h0 → cT h0 t N V st wt := fun h0 F => T.fz (F.z (Nat.le_refl _)) (by
    simp only [okT, List.all_cons, List.all_nil, and_true, Bool.and_eq_true, Bool.not_eq_true', List.contains_eq_mem, decide_eq_false_iff_not, List.mem_cons, List.not_mem_nil, or_false, Bool.and_true]
    simp; omega)
  refine nX7_leastMarks _ _ _ _ _ _ _ (bX7_leastMarks_0 _ _ _ _ _ _ _ ⟨T.o, s10_bitsInRows T s31 ⟨_, rfl, L.1, _, L.2.2.2.1, s7_fill L.2.2.2.2.1 L.2.2.2.2.2 (by decide) (fun h6 F6 z6 => ⟨rfl, ?_⟩)⟩⟩)
  have fin : ∀ (h0 : zH), fr [24] [] h h0 → (∀ k, k < 64 → aI h0 24 k = nI (ocF V N st wt f name s k (nlN N V f (4 ^ V)))) → ∀ (d k : Nat), k + d = 64 → fsN (swB N V f st wt name s) d k = fsN (swB N V f st wt name s) 64 0 → zX mX7_leastMarks 127 [.ref 21, .float 0, .float 0, .float 0, .float 0, .float 0, .int (nI k), .float 0, .float 0, .float 0] [] h0 Q := by
    intro h0 F A d
    have L0 := L.fr F (by simp) (by simp) (by simp)
    induction d with
    | zero =>
      intro k hk e
      have : k = 64 := by omega
      subst this
      have HH := H h0 F
      rw [← e] at HH
      exact bX7_leastMarks_127 _ _ _ _ ⟨L0.1, _, L0.2.2.2.1, L0.2.2.2.2.1, br_t (by rw [L0.2.2.2.2.2]; exact nI_le (Nat.le_refl _) (by decide)) HH⟩
    | succ d ih =>
      intro k hk e
      rw [fsN] at e
      refine bX7_leastMarks_127 _ _ _ _ ⟨L0.1, _, L0.2.2.2.1, L0.2.2.2.2.1, br_f (by rw [L0.2.2.2.2.2]; exact nI_ge (by omega) (by decide)) ⟨by rw [L0.2.2.2.2.2]; exact vp_in_nI (by omega) (by decide), ?_⟩⟩
      have o3 := @oc_3 V N st wt f name s k (nlN N V f (4 ^ V))
      have e1 : aI h0 24 k = 1 ↔ swB N V f st wt name s k = true := by
        rw [A k (by omega), ← oc_1 hV hN h3 hf]
        exact nI_eq (b := 1) (by omega) (by decide)
      rw [nI_clamp (by omega), e1, nI_1]
      refine ⟨fun q => ?_, fun q => ih (k + 1) (by omega) (by rw [if_neg q] at e; exact e)⟩
      rw [if_pos q] at e
      have HH := H h0 F
      rw [← e] at HH
      exact HH
  have go : ∀ (d i : Nat) (h0 : zH), i + d = (nlN N V f (4 ^ V)).length → fr [24] [] h h0 → (∀ k, k < 64 → aI h0 24 k = nI (ocF V N st wt f name s k ((nlN N V f (4 ^ V)).take i))) → zX mX7_leastMarks 19 [.ref 21, .int (nI name), .int (nI s), .ref 12, .ref t, .int (nI (en 4 V (fun v => if s.testBit v = true then 3 else 0))), .int (nI i), .float 0, .float 0, .float 0] [] h0 Q := by
    intro d
    induction d with
    | zero =>
      intro i h0 hi F A
      have : i = (nlN N V f (4 ^ V)).length := by omega
      subst this
      rw [List.take_length] at A
      exact bX7_leastMarks_19 _ _ _ _ _ _ _ _ _ ⟨F.o o12, br_t (by rw [F.gi (by simp), g6]; exact nI_le (Nat.le_refl _) (by omega)) (fin h0 F A 64 0 rfl rfl)⟩
    | succ d ih =>
      intro i h0 hi F A
      have il : i < (nlN N V f (4 ^ V)).length := by omega
      have L0 := L.fr F (by simp) (by simp) (by simp)
      have T0 := Tr h0 F
      have o0 := F.o o12
      have hri := List.getElem?_eq_getElem il
      generalize hr : (nlN N V f (4 ^ V))[i] = r at hri
      have et : (nlN N V f (4 ^ V)).take (i + 1) = (nlN N V f (4 ^ V)).take i ++ [r] := by
        rw [← hr]; exact (List.take_append_getElem il).symm
      have mem : r ∈ nlN N V f (4 ^ V) := List.mem_of_getElem? hri
      obtain ⟨m1, m2⟩ := List.mem_filter.mp mem
      have rl : r < 4 ^ V := List.mem_range.mp m1
      rw [Bool.and_eq_true] at m2
      have ne : aI h0 nc i = nI (nrE N V st wt r) := by
        rw [F.i (by simpa using dnc)]
        exact l6 i _ (by rw [List.getElem?_map, hri]; rfl)
      have hc := chF_le (V := V) (st := st) (wt := wt) (mk := dg 4 V r) hN
      obtain ⟨n1, n2⟩ := nr_and (r := r) (c := chF V N st wt (dg 4 V r)) (by omega) hc
      have kn := F.ik k4
      have nn : aN h0 nc = aN h nc := F.n nc
      refine bX7_leastMarks_19 _ _ _ _ _ _ _ _ _ ⟨o0, br_f (by rw [F.gi (by simp), g6]; exact nI_ge il (by omega)) ⟨_, by rw [F.gr (by simp)]; exact r4, s11_atN kn nn (by omega) (by omega) ⟨_, rfl, o0, _, by rw [F.gr (by simp)]; exact r4, s11_atN kn nn (by omega) (by omega) ⟨_, rfl, o0, _, by rw [F.gr (by simp)]; exact r2, ?_⟩⟩⟩⟩
      rw [ne]
      unfold nrE
      rw [n1, n2]
      refine s11_atN (F.ik k2) (F.n sc) (by omega) (by omega) ⟨_, rfl, ?_⟩
      have dr := D r rl m2.1
      rw [F.i (by simpa using dsc), dr.1]
      -- the rows that break none but those of the set
      have m4 : ∀ v, v < V → dg 4 V r v < 4 := fun v _ => dg_lt (by decide)
      have f4 : ∀ v, v < V → f (dg 4 V r) v < 4 := fun v hv => Nat.lt_succ_of_le (dr.2 v hv)
      have er : en 4 V (dg 4 V r) = r := en_dg (by decide) rl
      have l3 : ∀ v, v < V → (if s.testBit v = true then 3 else 0) < 4 := fun v _ => by split <;> omega
      have xx : ∀ v, v < V → dg 4 V r v ^^^ f (dg 4 V r) v < 4 := fun v hv => Nat.xor_lt_two_pow (n := 2) (m4 v hv) (f4 v hv)
      have xa : ∀ v, v < V → (dg 4 V r v ^^^ f (dg 4 V r) v) &&& (if s.testBit v = true then 3 else 0) < 4 := fun v hv => Nat.and_lt_two_pow (n := 2) _ (l3 v hv)
      have ec : (nI r ^^^ nI (en 4 V (f (dg 4 V r)))) &&& (nI (en 4 V (fun v => if s.testBit v = true then 3 else 0)) ^^^ (-1 : Int32)) = 0 ↔ cinS V f s r = true := by
        conv => lhs; rw [← er]
        rw [nI_xor, nI_andn, en4_xor m4 (by rw [er]; exact f4), en4_and (by rw [er]; exact xx) l3, en4_xor (by rw [er]; exact xx) (by rw [er]; exact xa), ← nI_0]
        have lt : ∀ v, v < V → ((dg 4 V r v ^^^ f (dg 4 V r) v) ^^^ ((dg 4 V r v ^^^ f (dg 4 V r) v) &&& (if s.testBit v = true then 3 else 0))) < 4 := fun v hv => Nat.xor_lt_two_pow (n := 2) (xx v hv) (xa v hv)
        rw [er, nI_eq (by have := en_lt lt; omega) (by decide), en_e0 (by decide), cinS_iff]
        constructor
        · intro z v hv hb
          have := z v hv
          rw [hb] at this
          simp only [Bool.false_eq_true, if_false, Nat.and_zero, Nat.xor_zero] at this
          exact ((dd5 _ (m4 v hv) _ (f4 v hv)).mp this).symm
        · intro z v hv
          cases hb : s.testBit v
          · simp only [Bool.false_eq_true, if_false, Nat.and_zero, Nat.xor_zero]
            exact (dd5 _ (m4 v hv) _ (f4 v hv)).mpr (z v hv hb).symm
          · simp only [if_true]
            exact dd4 _ (xx v hv)
      rw [ec, nI_1]
      refine ⟨fun q => s7_marksOf T0 s31 rl h3 ⟨_, rfl, L0.1, _, L0.2.2.2.1, ?_⟩, fun q => ?_⟩
      · have kt := tk_64 (s := s) (v := V) (m := dg 4 V r) (fun v hv => Nat.le_of_lt_succ (m4 v hv)) h3 (by omega)
        generalize hk : tkP s (dg 4 V r) V = k at *
        refine s11_atN L0.2.2.2.2.1 L0.2.2.2.2.2 kt (by decide) ⟨_, rfl, ?_⟩
        rw [A k kt, nI_1, nI_eq (by omega) (by omega)]
        have put : ∀ (b : Nat), b = (if chF V N st wt (dg 4 V r) = name + 1 then 1 else 2) → zC mX11_put [.ref 24, .int (nI k), .int (nI (ocF V N st wt f name s k ((nlN N V f (4 ^ V)).take i)) ||| nI b)] h0 (fun r0 h22 => r0 = none ∧ zX mX7_leastMarks 19 [.ref 21, .int (nI name), .int (nI s), .ref 12, .ref t, .int (nI (en 4 V (fun v => if s.testBit v = true then 3 else 0))), .int (nI (i + 1)), .float 0, .float 0, .float 0] [] h22 Q) := fun b hb => by
          refine s11_putN L0.2.2.2.2.1 L0.2.2.2.2.2 kt (by decide) (fun h22 e22 => ⟨rfl, ?_⟩)
          rw [nI_or] at e22
          refine ih (i + 1) h22 (by omega) (F.tr (by rw [e22]; exact fr_pI (by simp))) (fun k' hk' => ?_)
          rw [et, oc_s]
          by_cases z : k' = k
          · have hsw : swC V f s k' r = true := by
              unfold swC
              rw [q, Bool.true_and, z, hk]; exact Nat.beq_refl k
            rw [if_pos hsw, e22, z, aI_pI_s ⟨_, L0.2.2.2.2.1⟩, hb]
          · have hsw : ¬ swC V f s k' r = true := fun w => by
              unfold swC at w
              rw [Bool.and_eq_true, hk] at w
              exact z (Nat.eq_of_beq_eq_true w.2).symm
            rw [if_neg hsw, e22, aI_pI_n (Or.inr z)]
            exact A k' hk'
        exact ⟨fun w => put 1 (by rw [if_pos w]), fun w => put 2 (by rw [if_neg w])⟩
      · rw [nI_1 i]
        refine ih (i + 1) h0 (by omega) F (fun k hk => ?_)
        have hsw : ¬ swC V f s k r = true := fun w => by
          unfold swC at w
          rw [Bool.and_eq_true] at w
          exact q w.1
        rw [et, oc_s, if_neg hsw]
        exact A k hk
  exact go (nlN N V f (4 ^ V)).length 0 h6 (by omega) F6 (fun k hk => by rw [z6 k hk]; rfl)
/-- what is kept of a name's sway -/
def swK (h : zH) (N V : Nat) (f : (Nat → Nat) → Nat → Nat) (st wt : Nat → Nat) (j : Nat) : Prop := match swF N V f st wt j with
  | none => aI h 22 j = -1
  | some q => aI h 22 j = nI q.2.1 ∧ aI h 23 j = nI (wrD q.2.2 q.1 0)
theorem swI_some {p : Nat → Option Nat} {many : Nat} {q : Nat × Nat} : ∀ (d s : Nat), swI p many d s = some q → pcF q.1 = many ∧ s ≤ q.1 ∧ q.1 < s + d ∧ p q.1 = some q.2 := by
  intro d
  induction d with
  | zero => intro s e; cases e
  | succ d ih =>
    intro s e
    rw [swI] at e
    by_cases z : Nat.beq (pcF s) many = true
    · rw [if_pos z] at e
      cases hp : p s with
      | none =>
        rw [hp] at e
        have := ih (s + 1) e
        exact ⟨this.1, by omega, by omega, this.2.2.2⟩
      | some k =>
        rw [hp] at e
        have e' := Option.some.inj e
        subst e'
        exact ⟨Nat.eq_of_beq_eq_true z, Nat.le_refl _, by omega, hp⟩
    · rw [if_neg z] at e
      have := ih (s + 1) e
      exact ⟨this.1, by omega, by omega, this.2.2.2⟩
theorem swO_some {p : Nat → Option Nat} {q : Nat × Nat × Nat} : ∀ (d many : Nat), swO p V d many = some q → many ≤ q.1 ∧ q.1 < many + d ∧ pcF q.2.1 = q.1 ∧ q.2.1 < 2 ^ V ∧ p q.2.1 = some q.2.2 := by
  intro d
  induction d with
  | zero => intro many e; cases e
  | succ d ih =>
    intro many e
    rw [swO] at e
    cases hp : swI p many (2 ^ V) 0 with
    | none =>
      rw [hp] at e
      have := ih (many + 1) e
      exact ⟨by omega, by omega, this.2.2⟩
    | some q' =>
      rw [hp] at e
      have e' := Option.some.inj e
      subst e'
      have := swI_some (2 ^ V) 0 hp
      exact ⟨Nat.le_refl _, by show many < many + (d + 1); omega, this.1, by show q'.1 < 2 ^ V; omega, this.2.2.2⟩
theorem s7_knows {j KB : Nat} (L : cSl h) (K : gI h 21 3 = nI KB) (hK : KB < 8) (hj : j < 3) (H1 : KB.testBit j = true → Q (some (.int 1)) h) (H0 : KB.testBit j = false → Q (some (.int 0)) h) : zC mX7_knows [.ref 21, .int (nI j)] h Q := by
  refine nX7_knows _ _ _ _ (bX7_knows_0 _ _ _ _ ⟨L.1, ?_⟩)
  rw [K, nI_bit (by omega) (by omega)]
  exact ⟨H1, fun q => H0 (by simpa using q)⟩
theorem s7_answer {j : Nat} {x : Int32} (L : cSl h) (hN : N ≤ 3) (hV : V ≤ 8) (hj : j < N) (hx : x = 0 ∨ x = 1 ∨ x = 2) (K : swK h N V f st wt j) (H : Q (some (.int (swA (swF N V f st wt j) x))) h) : zC mX7_answer [.ref 21, .int (nI j), .int x] h Q := by
  have p2 : 2 ^ V ≤ 256 := Nat.le_trans (Nat.pow_le_pow_right (by decide) hV) (by decide)
  refine nX7_answer _ _ _ _ _ (bX7_answer_0 _ _ _ _ _ ⟨L.1, _, L.2.1.1, s11_atN L.2.1.2.1 L.2.1.2.2 (by omega) (by decide) ⟨_, rfl, ?_⟩⟩)
  unfold swK at K
  cases hq : swF N V f st wt j with
  | none =>
    rw [hq] at K H
    rw [K]
    exact br_t rfl H
  | some q =>
    rw [hq] at K H
    have sp := swO_some (V := V) 4 0 (show swO (swP N V f st wt j) V 4 0 = some q from hq)
    rw [K.1]
    unfold swA at H
    refine br_f (fun z => absurd (by rw [z]; decide) (nI_pos (n := q.2.1) (by omega))) ⟨fun z => ?_, fun z => ?_, fun z1 z2 => ?_⟩
    · simp only [z, if_true] at H
      refine bX7_answer_44 _ _ _ (s6_bitCount (by omega) ⟨_, rfl, ?_⟩)
      rw [sp.2.2.1]; exact H
    · have z0 : ¬ x = 0 := by rw [z]; decide
      simp only [z0, z, if_false, if_true] at H
      exact bX7_answer_49 _ _ _ H
    · simp only [z1, z2, if_false] at H
      refine bX7_answer_51 _ _ _ _ ⟨L.1, _, L.2.2.1.1, s11_atN L.2.2.1.2.1 L.2.2.1.2.2 (by omega) (by decide) ⟨_, rfl, ?_⟩⟩
      rw [K.2]; exact H
def XSw : List Nat := [22, 23, 24]
def YSw : List (Nat × Nat) := [(21, 3)]
theorem s7_search {name sc nc KB : Nat} (L : cSl h) (T : cT h t N V st wt) (ht : t = 70 ∨ t = 77) (o12 : oK h 12 5) (r2 : gR h 12 2 = some sc) (r4 : gR h 12 4 = some nc) (k2 : iK h sc 0) (k4 : iK h nc 0) (hsz : 4 ^ V ≤ aN h sc) (hs2 : aN h sc ≤ 65536) (hn4 : aN h nc ≤ 131072) (dsc : sc = 16 ∨ 126 ≤ sc) (dnc : nc = 18 ∨ 126 ≤ nc)
    (D : sdR h sc N V (fun r => f (dg 4 V r))) (g6 : gI h 12 6 = nI (nlN N V f (4 ^ V)).length) (l6 : lsR (aI h nc) ((nlN N V f (4 ^ V)).map (nrE N V st wt))) (l7 : (nlN N V f (4 ^ V)).length ≤ aN h nc)
    (hf : fC V f) (hname : name < N) (K : gI h 21 3 = nI KB) (hK : KB < 8) (H : ∀ h', fr XSw YSw h h' → gI h' 21 3 = nI (KB ||| 2 ^ name) → (∀ i, i ≠ name → aI h' 22 i = aI h 22 i ∧ aI h' 23 i = aI h 23 i) → swK h' N V f st wt name → Q none h') : zC mX7_search [.ref 21, .int (nI name), .ref 12, .ref t] h Q := by
  have hV := T.V8
  have hN := T.N3
  have p20 := Nat.two_pow_pos V
  have p2 : 2 ^ V ≤ 256 := Nat.le_trans (Nat.pow_le_pow_right (by decide) hV) (by decide)
  refine nX7_search _ _ _ _ _ _ (bX7_search_0 _ _ _ _ _ _ ⟨L.1, fun h2 e2 => ?_⟩)
  rw [K, nI_1shl (by omega), nI_or] at e2
  have F2 : fr XSw YSw h h2 := by rw [e2]; exact fr_pF (by simp [YSw]) L.1 rfl rfl
  have Lr : ∀ h0, fr XSw YSw h h0 → cSl h0 := fun h0 F => L.fr F (by simp [YSw]) (by simp [YSw]) (by simp [YSw])
  have L2 := Lr h2 F2
  refine ⟨_, L2.2.1.1, s11_putN L2.2.1.2.1 L2.2.1.2.2 (by omega) (by decide) (fun h5 e5 => ⟨rfl, ?_⟩)⟩
  have F5 : fr XSw YSw h2 h5 := by rw [e5]; exact fr_pI (by simp [XSw])
  have FF := F2.tr F5
  have k5 : gI h5 21 3 = nI (KB ||| 2 ^ name) := by rw [e5, gI_pI, e2]; exact gI_pF_s L.1 (by decide)
  have a5 : aI h5 22 name = -1 := by rw [e5]; exact aI_pI_s ⟨_, L2.2.1.2.1⟩
  have i5 : ∀ i, i ≠ name → aI h5 22 i = aI h 22 i ∧ aI h5 23 i = aI h 23 i := fun i hi => by
    rw [e5, aI_pI_n (Or.inr hi), aI_pI_n (Or.inl (by decide)), e2, aI_pF, aI_pF]; exact ⟨rfl, rfl⟩
  have Tr : ∀ h0, fr XSw YSw h h0 → cT h0 t N V st wt := fun h0 F => T.fz (F.z (Nat.le_refl _)) (by rcases ht with rfl | rfl <;> decide)
  generalize hp : swP N V f st wt name = p
  have inner : ∀ (many : Nat), many ≤ 3 → (∀ h0, fr [24] [] h5 h0 → swI p many (2 ^ V) 0 = none → zX mX7_search 24 [.ref 21, .int (nI name), .ref 12, .ref t, .int (nI (many + 1)), .float 0, .float 0] [] h0 Q) → (∀ q h0, fr [24] [] h5 h0 → swI p many (2 ^ V) 0 = some q → swF N V f st wt name = some (many, q)) →
      ∀ (d s : Nat) (h0 : zH), s + d = 2 ^ V → fr [24] [] h5 h0 → swI p many d s = swI p many (2 ^ V) 0 → zX mX7_search 33 [.ref 21, .int (nI name), .ref 12, .ref t, .int (nI many), .int (nI s), .float 0] [] h0 Q := by
    intro many hm go fin d
    induction d with
    | zero =>
      intro s h0 hs F e
      have : s = 2 ^ V := by omega
      subst this
      have T0 := Tr h0 (FF.tr (F.mo (by simp [XSw]) (by simp)))
      refine bX7_search_33 _ _ _ _ _ _ _ _ ⟨T0.o, ?_⟩
      rw [T0.e8, nI_1shl (by omega), nI_1]
      exact br_t (nI_le (Nat.le_refl _) (by omega)) (go h0 F e.symm)
    | succ d ih =>
      intro s h0 hs F e
      have F0 := FF.tr (F.mo (X' := XSw) (Y' := YSw) (by simp [XSw]) (by simp))
      have T0 := Tr h0 F0
      have L0 := Lr h0 F0
      have pl := pcF_31 s
      rw [swI] at e
      refine bX7_search_33 _ _ _ _ _ _ _ _ ⟨T0.o, ?_⟩
      rw [T0.e8, nI_1shl (by omega)]
      refine br_f (nI_ge (by omega) (by omega)) (s6_bitCount (by omega) ⟨_, rfl, ?_⟩)
      rw [nI_eq (by omega) (by omega), nI_1]
      have nx : ∀ {a : Nat}, (a = 16 ∨ 126 ≤ a) ∨ (a = 18 ∨ 126 ≤ a) → a ∉ XSw := fun z => by simp [XSw]; omega
      refine ⟨fun q => ⟨L0.1, s7_leastMarks L0 T0 (by omega) (F0.o o12) (by rw [F0.gr (by simp [YSw])]; exact r2) (by rw [F0.gr (by simp [YSw])]; exact r4) (F0.ik k2) (F0.ik k4) (by rw [F0.n]; exact hsz) (by rw [F0.n]; exact hs2) (by rw [F0.n]; exact hn4) (by omega) (by omega) (fun r hr hc => by rw [F0.i (nx (Or.inl dsc))]; exact D r hr hc) (by rw [F0.gi (by simp [YSw])]; exact g6) (by rw [F0.i (nx (Or.inr dnc))]; exact l6) (by rw [F0.n]; exact l7) hf hname (by omega) (by omega) (fun h7 F7 => ⟨_, rfl, ?_⟩)⟩, fun q => ?_⟩
      · rw [if_pos (beq_of q)] at e
        have F7' := F.tr F7
        have ep : fsN (swB N V f st wt name s) 64 0 = p s := by rw [← hp]; rfl
        rw [ep, oI_ne (fun x hx => by rw [← ep] at hx; have := (fsN_lt hx).2.1; omega)]
        refine ⟨fun z => ?_, fun z => ?_⟩
        · rw [z] at e
          exact ih (s + 1) h7 (by omega) F7' e
        · cases hps : p s with
          | none => exact absurd hps z
          | some k =>
            rw [hps] at e
            have k64 : k < 64 := by rw [← ep] at hps; exact (fsN_lt hps).2.1
            have sw := fin (s, k) h7 F7' e.symm
            have FA := FF.tr (F7'.mo (X' := XSw) (Y' := YSw) (by simp [XSw]) (by simp))
            have L7 := Lr h7 FA
            refine ⟨L7.1, _, L7.2.1.1, s11_putN L7.2.1.2.1 L7.2.1.2.2 (by omega) (by decide) (fun h12 e12 => ⟨rfl, ?_⟩)⟩
            have F12 : fr XSw YSw h7 h12 := by rw [e12]; exact fr_pI (by simp [XSw])
            have L12 := Lr h12 (FA.tr F12)
            refine ⟨L12.1, _, L12.2.2.1.1, s7_digits k64 hm ⟨_, rfl, s11_putN L12.2.2.1.2.1 L12.2.2.1.2.2 (by omega) (by decide) (fun h17 e17 => ⟨rfl, ?_⟩)⟩⟩
            have F17 : fr XSw YSw h12 h17 := by rw [e17]; exact fr_pI (by simp [XSw])
            refine H h17 ((FA.tr F12).tr F17) (by rw [e17, gI_pI, e12, gI_pI, F7'.gi (by simp)]; exact k5) (fun i hi => ?_) ?_
            · rw [e17, aI_pI_n (Or.inl (by decide)), aI_pI_n (Or.inr hi), e12, aI_pI_n (Or.inr hi), aI_pI_n (Or.inl (by decide)), F7'.i (by simp), F7'.i (by simp)]
              exact i5 i hi
            · unfold swK
              rw [sw]
              refine ⟨?_, ?_⟩
              · rw [e17, aI_pI_n (Or.inl (by decide)), e12]; exact aI_pI_s ⟨_, L7.2.1.2.1⟩
              · rw [e17]; exact aI_pI_s ⟨_, L12.2.2.1.2.1⟩
      · rw [if_neg (beq_no q)] at e
        exact ih (s + 1) h0 (by omega) F e
  have outer : ∀ (d many : Nat) (h0 : zH), many + d = 4 → fr [24] [] h5 h0 → swO p V d many = swF N V f st wt name → zX mX7_search 24 [.ref 21, .int (nI name), .ref 12, .ref t, .int (nI many), .float 0, .float 0] [] h0 Q := by
    intro d
    induction d with
    | zero =>
      intro many h0 hm F e
      have : many = 4 := by omega
      subst this
      refine bX7_search_24 _ _ _ _ _ _ _ (br_t (by decide +kernel) (H h0 (FF.tr (F.mo (by simp [XSw]) (by simp))) (by rw [F.gi (by simp)]; exact k5) (fun i hi => by rw [F.i (by simp), F.i (by simp)]; exact i5 i hi) ?_))
      unfold swK
      rw [← e]
      show aI h0 22 name = -1
      rw [F.i (by simp)]; exact a5
    | succ d ih =>
      intro many h0 hm F e
      rw [swO] at e
      refine bX7_search_24 _ _ _ _ _ _ _ (br_f (nI_nlt (b := many) (a := 3) (by omega) (by decide)) ?_)
      refine inner many (by omega) (fun h1 F1 e1 => ?_) (fun q h1 F1 e1 => ?_) (2 ^ V) 0 h0 (by omega) F rfl
      · rw [e1] at e
        exact ih (many + 1) h1 (by omega) F1 e
      · rw [e1] at e
        exact e.symm
  exact outer 4 0 h5 rfl fr.rf (by rw [← hp]; rfl)
end

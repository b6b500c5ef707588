/-! ===== the class: towns ===== -/
section
variable {h h' : zH} {t N V : Nat} {st wt mk : Nat → Nat} {Q : Option Value → zH → Prop} {X : List Nat} {Y : List (Nat × Nat)}
def cT (h : zH) (t N V : Nat) (st wt : Nat → Nat) : Prop := (t = 26 ∨ t = 70 ∨ t = 77) ∧ oK h t 10 ∧ (gR h t 3 = some (t + 4) ∧ iK h (t + 4) 0 ∧ aN h (t + 4) = 8) ∧ (gR h t 4 = some (t + 5) ∧ iK h (t + 5) 0 ∧ aN h (t + 5) = 8) ∧ gI h t 6 = nI N ∧ N ≤ 3 ∧ gI h t 8 = nI V ∧ V ≤ 8 ∧ ∀ v, v < V → aI h (t + 4) v = nI (st v) ∧ aI h (t + 5) v = nI (wt v) ∧ st v < 4 ∧ wt v ≤ 9
def okT (X : List Nat) (Y : List (Nat × Nat)) (t : Nat) : Bool := [t + 4, t + 5].all (fun k => !(X.contains k)) && [3, 4, 6, 8].all (fun f => !(Y.contains (t, f)))
theorem cT.fr (T : cT h t N V st wt) (F : fr X Y h h') (hc : (okT X Y 26 && (okT X Y 70 && okT X Y 77)) = true) : cT h' t N V st wt := by
  obtain ⟨t1, t2, t3, t4, t5, t6, t7, t8, t9⟩ := T
  have hc' : okT X Y t = true := by
    simp only [Bool.and_eq_true] at hc
    rcases t1 with rfl | rfl | rfl
    · exact hc.1
    · exact hc.2.1
    · exact hc.2.2
  simp only [okT, List.all_cons, List.all_nil, and_true, Bool.and_eq_true] at hc'
  obtain ⟨⟨c1, c2⟩, c3, c4, c5, c6⟩ := hc'
  refine ⟨t1, F.o t2, ⟨by rw [F.gr (ni_of c3)]; exact t3.1, F.ik t3.2.1, by rw [F.n]; exact t3.2.2⟩, ⟨by rw [F.gr (ni_of c4)]; exact t4.1, F.ik t4.2.1, by rw [F.n]; exact t4.2.2⟩, by rw [F.gi (ni_of c5)]; exact t5, t6, by rw [F.gi (ni_of c6)]; exact t7, t8, fun v hv => ?_⟩
  rw [F.i (ni_of c1), F.i (ni_of c2)]
  exact t9 v hv
theorem cT.o (T : cT h t N V st wt) : oK h t 10 := T.2.1
theorem cT.r3 (T : cT h t N V st wt) : gR h t 3 = some (t + 4) := T.2.2.1.1
theorem cT.k3 (T : cT h t N V st wt) : iK h (t + 4) 0 := T.2.2.1.2.1
theorem cT.n3 (T : cT h t N V st wt) : aN h (t + 4) = 8 := T.2.2.1.2.2
theorem cT.r4 (T : cT h t N V st wt) : gR h t 4 = some (t + 5) := T.2.2.2.1.1
theorem cT.k4 (T : cT h t N V st wt) : iK h (t + 5) 0 := T.2.2.2.1.2.1
theorem cT.n4 (T : cT h t N V st wt) : aN h (t + 5) = 8 := T.2.2.2.1.2.2
theorem cT.e6 (T : cT h t N V st wt) : gI h t 6 = nI N := T.2.2.2.2.1
theorem cT.N3 (T : cT h t N V st wt) : N ≤ 3 := T.2.2.2.2.2.1
theorem cT.e8 (T : cT h t N V st wt) : gI h t 8 = nI V := T.2.2.2.2.2.2.1
theorem cT.V8 (T : cT h t N V st wt) : V ≤ 8 := T.2.2.2.2.2.2.2.1
theorem cT.v (T : cT h t N V st wt) : ∀ v, v < V → aI h (t + 4) v = nI (st v) ∧ aI h (t + 5) v = nI (wt v) ∧ st v < 4 ∧ wt v ≤ 9 := T.2.2.2.2.2.2.2.2
theorem atF_n {f : Nat → Int32} {n j : Nat} (hj : j < n) (hn : n < 2 ^ 31) : atF f n (nI j) = f j := by
  rw [atF, if_neg (nI_pos (by omega)), if_neg (nI_ge hj hn), nI_clamp (by omega)]
theorem s11_at {a : Nat} {i : Int32} (ho : iK h a 0) (hn : aN h a < 2 ^ 31) (H : Q (some (.int (atF (aI h a) (aN h a) i))) h) : zC mX11_at [.ref a, .int i] h Q :=
  (s_at ho hn).mono (fun _ _ e => by rw [e.1, e.2]; exact H)
theorem s11_atN {a j n : Nat} (ho : iK h a 0) (hn : aN h a = n) (hj : j < n) (h31 : n < 2 ^ 31) (H : Q (some (.int (aI h a j))) h) : zC mX11_at [.ref a, .int (nI j)] h Q :=
  s11_at ho (by omega) (by rw [hn, atF_n hj h31]; exact H)
theorem s11_put {a : Nat} {i x : Int32} (ho : iK h a 0) (hn : aN h a < 2 ^ 31) (H : ∀ h', h' = putH h a i x → Q none h') : zC mX11_put [.ref a, .int i, .int x] h Q :=
  (s_put ho hn).mono (fun _ _ e => by rw [e.1]; exact H _ e.2)
theorem s11_putN {a j n : Nat} {x : Int32} (ho : iK h a 0) (hn : aN h a = n) (hj : j < n) (h31 : n < 2 ^ 31) (H : ∀ h', h' = pI h a j x → Q none h') : zC mX11_put [.ref a, .int (nI j), .int x] h Q :=
  s11_put ho (by omega) (fun h' e => H h' (by rw [e, putH, if_neg (nI_pos (by omega)), hn, if_neg (nI_ge hj h31), nI_clamp (by omega)]))
theorem p42 (k : Nat) : (4 : Nat) ^ k = 2 ^ (2 * k) := by rw [Nat.pow_mul]
theorem en4_lt {V : Nat} {mk : Nat → Nat} (hV : V ≤ 8) (hm : ∀ v, v < V → mk v ≤ 3) : en 4 V mk < 65536 :=
  Nat.lt_of_lt_of_le (en_lt (fun v hv => Nat.lt_succ_of_le (hm v hv))) (Nat.le_trans (Nat.pow_le_pow_right (by decide) hV) (by decide))
theorem en4_at {V v : Nat} {mk : Nat → Nat} (hm : ∀ v, v < V → mk v ≤ 3) (hv : v < V) : en 4 V mk / 2 ^ (2 * (V - 1 - v)) % 4 = mk v := by
  rw [← p42, ← dg_div hv, dg_en (fun i hi => Nat.lt_succ_of_le (hm i hi)) v hv]
theorem s10_shiftOf (T : cT h t N V st wt) {v : Nat} (hv : v < V) (H : Q (some (.int (nI (2 * (V - 1 - v))))) h) : zC mX10_shiftOf [.ref t, .int (nI v)] h Q := by
  have e : (2 : Int32) * ((nI V - 1) - nI v) = nI (2 * (V - 1 - v)) := by
    rw [nI_lit 2, nI_lit 1, nI_sub (by omega), nI_sub (by omega), nI_mul]
  exact nX10_shiftOf _ _ _ _ (bX10_shiftOf_0 _ _ _ _ ⟨T.o, by rw [T.e8, e]; exact H⟩)
theorem s10_markOf (T : cT h t N V st wt) {v : Nat} (hv : v < V) (hm : ∀ v, v < V → mk v ≤ 3) (H : Q (some (.int (nI (mk v)))) h) : zC mX10_markOf [.ref t, .int (nI (en 4 V mk)), .int (nI v)] h Q := by
  have hV := T.V8
  refine nX10_markOf _ _ _ _ _ (bX10_markOf_0 _ _ _ _ _ ⟨T.o, s10_shiftOf T hv ⟨_, rfl, ?_⟩⟩)
  rw [nI_shr (by have := en4_lt hV hm; omega) (by omega), nI_mod4, en4_at hm hv]
  exact H
theorem s10_hasName (T : cT h t N V st wt) {x : Int32} (H1 : (x < 0 ∨ nI N ≤ x) → Q (some (.int 0)) h) (H2 : ∀ j, j < N → x = nI j → Q (some (.int 1)) h) : zC mX10_hasName [.ref t, .int x] h Q := by
  have hN := T.N3
  refine nX10_hasName _ _ _ _ (bX10_hasName_0 _ _ _ _ ⟨fun q => H1 (Or.inl q), fun q => ⟨T.o, ?_⟩⟩)
  rw [T.e6]
  refine ⟨fun q2 => H1 (Or.inr q2), fun q2 => ?_⟩
  obtain ⟨j, hj, rfl⟩ := nI_of q
  rw [nI_leI (by omega) hj] at q2
  exact H2 j (by omega) rfl
theorem s10_hasVoter (T : cT h t N V st wt) {x : Int32} (H1 : (x < 0 ∨ nI V ≤ x) → Q (some (.int 0)) h) (H2 : ∀ j, j < V → x = nI j → Q (some (.int 1)) h) : zC mX10_hasVoter [.ref t, .int x] h Q := by
  have hN := T.V8
  refine nX10_hasVoter _ _ _ _ (bX10_hasVoter_0 _ _ _ _ ⟨fun q => H1 (Or.inl q), fun q => ⟨T.o, ?_⟩⟩)
  rw [T.e8]
  refine ⟨fun q2 => H1 (Or.inr q2), fun q2 => ?_⟩
  obtain ⟨j, hj, rfl⟩ := nI_of q
  rw [nI_leI (by omega) hj] at q2
  exact H2 j (by omega) rfl
theorem s10_hasMark (T : cT h t N V st wt) {x : Int32} (H1 : (x < 0 ∨ nI N < x) → Q (some (.int 0)) h) (H2 : ∀ j, j ≤ N → x = nI j → Q (some (.int 1)) h) : zC mX10_hasMark [.ref t, .int x] h Q := by
  have hN := T.N3
  refine nX10_hasMark _ _ _ _ (bX10_hasMark_0 _ _ _ _ ⟨fun q => H1 (Or.inl q), fun q => ⟨T.o, ?_⟩⟩)
  rw [T.e6]
  refine ⟨fun q2 => H1 (Or.inr q2), fun q2 => ?_⟩
  obtain ⟨j, hj, rfl⟩ := nI_of q
  rw [nI_ltI (by omega) hj] at q2
  exact H2 j (by omega) rfl
theorem l10_votes {ow : Int32} {own s m : Nat} (T : cT h t N V st wt) (how : ∀ v, v < V → (nI v = ow ↔ v = own)) (hm : ∀ v, v < V → mk v ≤ 3) (hm3 : m ≤ 3) (hs : s ≤ 4) : ∀ (k a : Nat), k ≤ V → Q (some (.int (nI (a + sm (vf st wt mk own s m) 0 k)))) h → zX mX10_votes 14 [.ref t, .float 0, .int ow, .int (nI s), .int (nI m), .int (nI a), .int (nI (en 4 k mk)), .int (nI k + (-1)), .float 0] [] h Q := by
  have hV := T.V8
  intro k
  induction k with
  | zero =>
    intro a hk H
    exact bX10_votes_14 _ _ _ _ _ _ _ _ _ (br_t nI_d0 H)
  | succ k ih =>
    intro a hk H
    rw [nI_dn]
    have hmk := hm k (by omega)
    obtain ⟨v1, v2, v3, v4⟩ := T.v k (by omega)
    have e1 : nI (en 4 (k + 1) mk) &&& 3 = nI (mk k) := by
      rw [nI_mod4, en, Nat.mul_comm, Nat.mul_add_mod, Nat.mod_eq_of_lt (by omega)]
    have e2 : nI (en 4 (k + 1) mk) >>> ((2 : Int32) &&& 31) = nI (en 4 k mk) := by
      rw [nI_lit 2, nI_shr (by have := en4_lt (by omega : k + 1 ≤ 8) (fun v hv => hm v (by omega) : ∀ v, v < k + 1 → mk v ≤ 3); omega) (by omega), en, show (2 : Nat) ^ 2 = 4 from rfl, Nat.mul_comm, Nat.mul_add_div (by decide), Nat.div_eq_of_lt (by omega), Nat.add_zero]
    have go : ∀ x, vf st wt mk own s m k = x → zX mX10_votes 83 [.ref t, .float 0, .int ow, .int (nI s), .int (nI m), .int (nI (a + x)), .int (nI (en 4 (k + 1) mk)), .int (nI k), .float 0] [] h Q := fun x hx => by
      refine bX10_votes_83 _ _ _ _ _ _ _ _ _ ?_
      rw [e2]
      refine ih (a + x) (by omega) ?_
      rw [sm_last, Nat.zero_add, hx] at H
      rw [show a + x + sm (vf st wt mk own s m) 0 k = a + (sm (vf st wt mk own s m) 0 k + x) by omega]
      exact H
    have yes : k ≠ own → mk k = m → (s = 0 ∨ s = st k + 1) → zX mX10_votes 53 [.ref t, .float 0, .int ow, .int (nI s), .int (nI m), .int (nI a), .int (nI (en 4 (k + 1) mk)), .int (nI k), .float 0] [] h Q := fun q1 q2 q3 => by
      refine bX10_votes_53 _ _ _ _ _ _ _ _ _ (bX10_votes_58 _ _ _ _ _ _ _ _ _ _ (br_f (by decide +kernel) ⟨T.o, _, T.r4, s11_atN T.k4 T.n4 (by omega) (by decide) ⟨_, rfl, ?_⟩⟩))
      rw [v2, nI_add]
      exact go _ (by simp [vf, q1, q2, q3])
    refine bX10_votes_14 _ _ _ _ _ _ _ _ _ (br_f (nI_pos (by omega)) ?_)
    rw [e1]
    refine ⟨fun q => ⟨fun q2 => ?_, fun q2 => ⟨fun q3 => ?_, fun q3 => ⟨T.o, _, T.r3, s11_atN T.k3 T.n3 (by omega) (by decide) ⟨_, rfl, fun q4 => ?_, fun q4 => ?_⟩⟩⟩⟩, fun q => ?_⟩
    · rw [how k (by omega)] at q2
      exact go 0 (by simp [vf, q2])
    · rw [nI_eq (by omega) (by omega)] at q
      rw [how k (by omega)] at q2
      rw [← nI_0, nI_eq (by omega) (by omega)] at q3
      exact yes q2 q (Or.inl q3)
    · rw [nI_eq (by omega) (by omega)] at q
      rw [how k (by omega)] at q2
      rw [v1, nI_1, nI_eq (by omega) (by omega)] at q4
      exact yes q2 q (Or.inr q4)
    · rw [← nI_0, nI_eq (by omega) (by omega)] at q3
      rw [v1, nI_1, nI_eq (by omega) (by omega)] at q4
      refine bX10_votes_58 _ _ _ _ _ _ _ _ _ _ (br_t rfl ?_)
      rw [← nI_0, nI_add]
      exact go 0 (by simp [vf, q3, q4])
    · rw [nI_eq (by omega) (by omega)] at q
      exact go 0 (by simp [vf, q])
theorem s10_votes {ow : Int32} {own s m : Nat} (T : cT h t N V st wt) (how : ∀ v, v < V → (nI v = ow ↔ v = own)) (hm : ∀ v, v < V → mk v ≤ 3) (hm3 : m ≤ 3) (hs : s ≤ 4) (H : Q (some (.int (nI (vts V st wt mk own s m)))) h) : zC mX10_votes [.ref t, .int (nI (en 4 V mk)), .int ow, .int (nI s), .int (nI m)] h Q := by
  refine nX10_votes _ _ _ _ _ _ _ (bX10_votes_0 _ _ _ _ _ _ _ ⟨T.o, ?_⟩)
  rw [T.e8, nI_s1]
  exact l10_votes T how hm hm3 hs V 0 (Nat.le_refl _) (by rw [Nat.zero_add]; exact H)
theorem vts10 (T : cT h t N V st wt) {own s m : Nat} : vts V st wt mk own s m ≤ 72 := by
  have hV := T.V8
  exact Nat.le_trans (vts_le fun v hv => (T.v v hv).2.2.2) (Nat.le_trans (Nat.mul_le_mul_left 9 hV) (by decide))
theorem s10_mostVoted {ow : Int32} {own s : Nat} (T : cT h t N V st wt) (how : ∀ v, v < V → (nI v = ow ↔ v = own)) (hm : ∀ v, v < V → mk v ≤ 3) (hs : s ≤ 4) (H : Q (some (.int (nI (mst (vts V st wt mk own s) N 1 0 0)))) h) : zC mX10_mostVoted [.ref t, .int (nI (en 4 V mk)), .int ow, .int (nI s)] h Q := by
  have hN := T.N3
  have L : ∀ (d n best top : Nat), n + d = N + 1 → top ≤ 72 → best ≤ N → Q (some (.int (nI (mst (vts V st wt mk own s) d n best top)))) h → zX mX10_mostVoted 9 [.ref t, .int (nI (en 4 V mk)), .int ow, .int (nI s), .int (nI best), .int (nI top), .int (nI n), .float 0] [] h Q := by
    intro d
    induction d with
    | zero =>
      intro n best top hn ht hb H
      exact bX10_mostVoted_9 _ _ _ _ _ _ _ _ _ ⟨T.o, br_t (by rw [T.e6]; exact nI_lt (by omega) (by omega)) H⟩
    | succ d ih =>
      intro n best top hn ht hb H
      have h9 := vts10 (mk := mk) (own := own) (s := s) (m := n) T
      refine bX10_mostVoted_9 _ _ _ _ _ _ _ _ _ ⟨T.o, br_f (by rw [T.e6]; exact nI_nlt (by omega) (by omega)) (s10_votes T how hm (by omega) hs ⟨_, rfl, fun q => ?_, fun q => ?_⟩)⟩
      · rw [nI_leI (by omega) (by omega)] at q
        rw [nI_1]
        rw [mst, if_pos q] at H
        exact ih _ _ _ (by omega) ht hb H
      · rw [nI_leI (by omega) (by omega)] at q
        rw [nI_1]
        rw [mst, if_neg q] at H
        exact ih _ _ _ (by omega) h9 (by omega) H
  exact nX10_mostVoted _ _ _ _ _ _ (bX10_mostVoted_0 _ _ _ _ _ _ (L N 1 0 0 (by omega) (by omega) (by omega) H))
theorem s10_fewestVoted {ow : Int32} {own s : Nat} (T : cT h t N V st wt) (how : ∀ v, v < V → (nI v = ow ↔ v = own)) (hm : ∀ v, v < V → mk v ≤ 3) (hs : s ≤ 4) (H : Q (some (.int (nI (fwt (vts V st wt mk own s) N 1 0 0)))) h) : zC mX10_fewestVoted [.ref t, .int (nI (en 4 V mk)), .int ow, .int (nI s)] h Q := by
  have hN := T.N3
  have L : ∀ (d n best top : Nat), n + d = N + 1 → top ≤ 72 → best ≤ N → Q (some (.int (nI (fwt (vts V st wt mk own s) d n best top)))) h → zX mX10_fewestVoted 9 [.ref t, .int (nI (en 4 V mk)), .int ow, .int (nI s), .int (nI best), .int (nI top), .int (nI n), .float 0] [] h Q := by
    intro d
    induction d with
    | zero =>
      intro n best top hn ht hb H
      exact bX10_fewestVoted_9 _ _ _ _ _ _ _ _ _ ⟨T.o, br_t (by rw [T.e6]; exact nI_lt (by omega) (by omega)) H⟩
    | succ d ih =>
      intro n best top hn ht hb H
      have h9 := vts10 (mk := mk) (own := own) (s := s) (m := n) T
      refine bX10_fewestVoted_9 _ _ _ _ _ _ _ _ _ ⟨T.o, br_f (by rw [T.e6]; exact nI_nlt (by omega) (by omega)) (s10_votes T how hm (by omega) hs ⟨_, rfl, fun q => ?_, fun q => ⟨fun q2 => ?_, fun q2 => ?_⟩⟩)⟩
      · rw [← nI_0, nI_eq (by omega) (by omega)] at q
        rw [nI_1]
        rw [fwt, if_pos q] at H
        exact ih _ _ _ (by omega) h9 (by omega) H
      · rw [← nI_0, nI_eq (by omega) (by omega)] at q
        rw [nI_leI (by omega) (by omega)] at q2
        rw [nI_1]
        rw [fwt, if_neg q, if_pos q2] at H
        exact ih _ _ _ (by omega) ht hb H
      · rw [← nI_0, nI_eq (by omega) (by omega)] at q
        rw [nI_leI (by omega) (by omega)] at q2
        rw [nI_1]
        rw [fwt, if_neg q, if_neg q2] at H
        exact ih _ _ _ (by omega) h9 (by omega) H
  exact nX10_fewestVoted _ _ _ _ _ _ (bX10_fewestVoted_0 _ _ _ _ _ _ (L N 1 0 0 (by omega) (by omega) (by omega) H))
/-- who is chosen: 1 and the name, or 0 -/
def chF (V N : Nat) (st wt mk : Nat → Nat) : Nat := chs (vts V st wt mk 99 0) N 1 0 0
theorem s10_chosenIn (T : cT h t N V st wt) (hm : ∀ v, v < V → mk v ≤ 3) (H : Q (some (.int (nI (chF V N st wt mk)))) h) : zC mX10_chosenIn [.ref t, .int (nI (en 4 V mk))] h Q := by
  have hN := T.N3
  have hV := T.V8
  have how : ∀ v, v < V → (nI v = (-1 : Int32) ↔ v = 99) := fun v hv => ⟨fun e => by
    have : ¬ nI v < 0 := nI_pos (by omega)
    rw [e] at this
    exact absurd (by decide +kernel) this, fun e => by omega⟩
  have L : ∀ (d n best top : Nat), n + d = N + 1 → top ≤ 72 → best ≤ N → Q (some (.int (nI (chs (vts V st wt mk 99 0) d n best top)))) h → zX mX10_chosenIn 7 [.ref t, .int (nI (en 4 V mk)), .int (nI best), .int (nI top), .int (nI n), .float 0] [] h Q := by
    intro d
    induction d with
    | zero =>
      intro n best top hn ht hb H
      exact bX10_chosenIn_7 _ _ _ _ _ _ _ ⟨T.o, br_t (by rw [T.e6]; exact nI_lt (by omega) (by omega)) H⟩
    | succ d ih =>
      intro n best top hn ht hb H
      have h9 := vts10 (mk := mk) (own := 99) (s := 0) (m := n) T
      refine bX10_chosenIn_7 _ _ _ _ _ _ _ ⟨T.o, br_f (by rw [T.e6]; exact nI_nlt (by omega) (by omega)) (s10_votes (s := 0) T how hm (by omega) (by omega) ⟨_, rfl, fun q => ⟨fun q2 => ?_, fun q2 => ?_⟩, fun q => ?_⟩)⟩
      · rw [nI_leI (by omega) (by omega)] at q
        rw [nI_eq (by omega) (by omega)] at q2
        rw [nI_1]
        rw [chs, if_pos q, if_pos q2] at H
        exact ih _ 0 _ (by omega) ht (by omega) H
      · rw [nI_leI (by omega) (by omega)] at q
        rw [nI_eq (by omega) (by omega)] at q2
        rw [nI_1]
        rw [chs, if_pos q, if_neg q2] at H
        exact ih _ _ _ (by omega) ht hb H
      · rw [nI_leI (by omega) (by omega)] at q
        rw [nI_1]
        rw [chs, if_neg q] at H
        exact ih _ _ _ (by omega) h9 (by omega) H
  exact nX10_chosenIn _ _ _ _ (bX10_chosenIn_0 _ _ _ _ (L N 1 0 0 (by omega) (by omega) (by omega) H))
end

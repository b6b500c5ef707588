/-! ===== the reference: queries over laid rows ===== -/
section
variable {h h' : zH} {b N ns V xv : Nat} {st wt mk : Nat → Nat} {Q : Option Value → zH → Prop} {X : List Nat} {Y : List (Nat × Nat)} {cn : Nat → Nat} {cd : Nat → Nat → Nat × Nat × Nat} {f : (Nat → Nat) → Nat → Nat}
theorem m1lt {x y : Nat} (hx : x < 2 ^ 31) (hy : y < 2 ^ 31) : nI y + (-1) < nI x ↔ y ≤ x := by
  cases y with
  | zero => rw [nI_d0']; exact ⟨fun _ => Nat.zero_le _, fun _ => by
      have h1 := nI_pos (n := x) hx
      rw [Int32.lt_iff_toInt_lt] at h1 ⊢
      have e0 : (0 : Int32).toInt = 0 := by decide
      have e1 : (-1 : Int32).toInt = -1 := by decide
      omega⟩
  | succ y => rw [nI_dn, nI_ltI (by omega) hx]; omega
theorem s12_isVoter (M : mT h b N ns V st wt) {x : Int32} (H1 : (x < 0 ∨ nI V ≤ x) → Q (some (.int 0)) h) (H2 : ∀ j, j < V → x = nI j → Q (some (.int 1)) h) : zC mX12_isVoter [.ref 84, .int x] h Q := by
  have hV := M.V8
  refine nX12_isVoter _ _ _ _ (bX12_isVoter_0 _ _ _ _ ⟨M.l.o, s12_voterMany M ⟨_, rfl, ?_⟩⟩)
  rw [nI_s1]
  refine s12_isIn (fun q => ⟨_, rfl, Or.inl rfl, H1 ?_⟩) (fun q1 q2 => ⟨_, rfl, Or.inr rfl, ?_⟩)
  · rcases q with q | q
    · exact Or.inl q
    · by_cases z : x < 0
      · exact Or.inl z
      · obtain ⟨j, hj, rfl⟩ := nI_of z
        rw [m1lt hj (by omega)] at q
        exact Or.inr (nI_le q hj)
  · obtain ⟨j, hj, rfl⟩ := nI_of q1
    rw [m1lt hj (by omega)] at q2
    exact H2 j (by omega) rfl
theorem s12_isName (M : mT h b N ns V st wt) {x : Int32} (H1 : (x < 0 ∨ nI N ≤ x) → Q (some (.int 0)) h) (H2 : ∀ j, j < N → x = nI j → Q (some (.int 1)) h) : zC mX12_isName [.ref 84, .int x] h Q := by
  have hV := M.N3
  refine nX12_isName _ _ _ _ (bX12_isName_0 _ _ _ _ ⟨M.l.o, s12_nameMany M ⟨_, rfl, ?_⟩⟩)
  rw [nI_s1]
  refine s12_isIn (fun q => ⟨_, rfl, Or.inl rfl, H1 ?_⟩) (fun q1 q2 => ⟨_, rfl, Or.inr rfl, ?_⟩)
  · rcases q with q | q
    · exact Or.inl q
    · by_cases z : x < 0
      · exact Or.inl z
      · obtain ⟨j, hj, rfl⟩ := nI_of z
        rw [m1lt hj (by omega)] at q
        exact Or.inr (nI_le q hj)
  · obtain ⟨j, hj, rfl⟩ := nI_of q1
    rw [m1lt hj (by omega)] at q2
    exact H2 j (by omega) rfl
theorem s12_everybody (M : mT h b N ns V st wt) (H : Q (some (.int (nI (2 ^ V - 1)))) h) : zC mX12_everybody [.ref 84] h Q := by
  have hV := M.V8
  refine nX12_everybody _ _ _ (bX12_everybody_0 _ _ _ ⟨M.l.o, s12_voterMany M ⟨_, rfl, ?_⟩⟩)
  rw [nI_1shl (by omega), nI_lit 1, nI_sub (Nat.pow_pos (by decide))]
  exact H
theorem kp_all {f mk : Nat → Nat} : kpF f mk V = 2 ^ V - 1 ↔ stB V f mk = true := by
  rw [stB_iff]
  constructor
  · intro e v hv
    have := kpF_bit (f := f) (mk := mk) (j := V) (v := v)
    rw [e, Nat.testBit_two_pow_sub_one] at this
    simp [hv] at this
    exact this
  · intro e
    apply Nat.eq_of_testBit_eq
    intro v
    rw [kpF_bit, Nat.testBit_two_pow_sub_one]
    by_cases z : v < V
    · simp [z, e v z]
    · simp [z]
/-- does the reference's row r stand -/
def isC (N V : Nat) (f : (Nat → Nat) → Nat → Nat) (r : Nat) : Bool := stB V (f (dg (N + 1) V r)) (dg (N + 1) V r)
theorem s12_isCounting {r : Nat} (M : mT h b N ns V st wt) (S : mS h N V f) (hr : r < (N + 1) ^ V) (H1 : isC N V f r = true → Q (some (.int 1)) h) (H0 : ¬ isC N V f r = true → Q (some (.int 0)) h) : zC mX12_isCounting [.ref 84, .int (nI r)] h Q := by
  have hV := M.V8
  have hp := pw_le M.N3 hV
  refine nX12_isCounting _ _ _ _ (bX12_isCounting_0 _ _ _ _ ⟨M.l.o, _, M.l.r42, M.l.k42, by rw [M.l.n42]; exact vp_in_nI (by omega) (by decide), s12_everybody M ⟨_, rfl, ?_⟩⟩)
  have k1 : kpF (f (dg (N + 1) V r)) (dg (N + 1) V r) V < 2 ^ V := kpF_lt
  have p8 : 2 ^ V ≤ 256 := Nat.le_trans (Nat.pow_le_pow_right (by decide) hV) (by decide)
  rw [nI_clamp (by omega), (S.2 r hr).2, nI_eq (by omega) (by omega), kp_all]
  exact ⟨H1, H0⟩
/-- the reference's standing rows, in order -/
def mlN (N V : Nat) (f : (Nat → Nat) → Nat → Nat) (n : Nat) : List Nat := (List.range n).filter (isC N V f)
theorem mlN_s (n : Nat) : mlN N V f (n + 1) = mlN N V f n ++ (if isC N V f n then [n] else []) := filter_range_s _ _
theorem s12_countings (M : mT h b N ns V st wt) (S : mS h N V f) (H : Q (some (.int (nI (mlN N V f ((N + 1) ^ V)).length))) h) : zC mX12_countings [.ref 84] h Q := by
  have hp := pw_le M.N3 M.V8
  have L : ∀ (d r : Nat), r + d = (N + 1) ^ V → zX mX12_countings 4 [.ref 84, .int (nI (mlN N V f r).length), .int (nI r)] [] h Q := by
    intro d
    induction d with
    | zero =>
      intro r hr
      have : r = (N + 1) ^ V := by omega
      subst this
      exact bX12_countings_4 _ _ _ _ _ ⟨M.l.o, br_t (by rw [S.1]; exact nI_le (Nat.le_refl _) (by omega)) H⟩
    | succ d ih =>
      intro r hr
      have hi := ih (r + 1) (by omega)
      rw [mlN_s] at hi
      refine bX12_countings_4 _ _ _ _ _ ⟨M.l.o, br_f (by rw [S.1]; exact nI_ge (by omega) (by omega)) (s12_isCounting M S (by omega) (fun q => ⟨_, rfl, br_f (by decide +kernel) ?_⟩) (fun q => ⟨_, rfl, br_t rfl ?_⟩))⟩
      · rw [if_pos q] at hi
        rw [nI_1, nI_1]
        simpa using hi
      · rw [if_neg q] at hi
        rw [← nI_0, nI_add, nI_1]
        simpa using hi
  exact nX12_countings _ _ _ (bX12_countings_0 _ _ _ (L ((N + 1) ^ V) 0 (by omega)))
/-- the place of the i-th standing row -/
theorem s12_rowOf (M : mT h b N ns V st wt) (S : mS h N V f) {x : Int32} (H1 : ∀ i r, x = nI i → (mlN N V f ((N + 1) ^ V))[i]? = some r → r < (N + 1) ^ V → Q (some (.int (nI r))) h) (H0 : (x < 0 ∨ nI (mlN N V f ((N + 1) ^ V)).length ≤ x) → Q (some (.int (-1))) h) : zC mX12_rowOf [.ref 84, .int x] h Q := by
  have hp := pw_le M.N3 M.V8
  have hll : (mlN N V f ((N + 1) ^ V)).length ≤ (N + 1) ^ V := flt_le _ _
  refine nX12_rowOf _ _ _ _ (bX12_rowOf_0 _ _ _ _ ?_)
  by_cases z : x < 0
  · by_cases z2 : (N + 1) ^ V ≤ 0
    · exact bX12_rowOf_4 _ _ _ _ _ ⟨M.l.o, br_t (by rw [S.1]; exact nI_le z2 (by decide)) (H0 (Or.inl z))⟩
    · exact bX12_rowOf_4 _ _ _ _ _ ⟨M.l.o, br_f (by rw [S.1]; exact nI_ge (a := 0) (by omega) (by omega)) (br_t z (H0 (Or.inl z)))⟩
  · obtain ⟨i, hi, rfl⟩ := nI_of z
    have L : ∀ (d r : Nat), r + d = (N + 1) ^ V → (mlN N V f r).length ≤ i → zX mX12_rowOf 4 [.ref 84, .float 0, .int (nI (i - (mlN N V f r).length)), .int (nI r)] [] h Q := by
      intro d
      induction d with
      | zero =>
        intro r hr hl
        have : r = (N + 1) ^ V := by omega
        subst this
        exact bX12_rowOf_4 _ _ _ _ _ ⟨M.l.o, br_t (by rw [S.1]; exact nI_le (Nat.le_refl _) (by omega)) (H0 (Or.inr (nI_le hl hi)))⟩
      | succ d ih =>
        intro r hr hl
        refine bX12_rowOf_4 _ _ _ _ _ ⟨M.l.o, br_f (by rw [S.1]; exact nI_ge (by omega) (by omega)) (br_f (nI_pos (by omega)) (s12_isCounting M S (by omega) (fun q => ⟨_, rfl, br_f (by decide +kernel) ⟨fun q2 => ?_, fun q2 => ?_⟩⟩) (fun q => ⟨_, rfl, br_t rfl ?_⟩)))⟩
        · rw [← nI_0, nI_eq (by omega) (by decide)] at q2
          refine H1 i r rfl ?_ (by omega)
          have e : ∀ d, (mlN N V f (r + 1 + d))[i]? = some r := by
            intro d
            induction d with
            | zero =>
              rw [Nat.add_zero, mlN_s, if_pos q, List.getElem?_append_right (by omega), q2]; rfl
            | succ d ih2 =>
              rw [← Nat.add_assoc, mlN_s, List.getElem?_append_left (List.getElem?_eq_some_iff.mp ih2).1]; exact ih2
          have := e d
          rwa [show r + 1 + d = (N + 1) ^ V by omega] at this
        · rw [← nI_0, nI_eq (by omega) (by decide)] at q2
          have hi2 := ih (r + 1) (by omega)
          rw [mlN_s, if_pos q, List.length_append] at hi2
          simp only [List.length_cons, List.length_nil] at hi2
          obtain ⟨k, hk⟩ : ∃ k, i - (mlN N V f r).length = k + 1 := ⟨i - (mlN N V f r).length - 1, by omega⟩
          rw [hk, nI_dn, nI_1]
          have := hi2 (by omega)
          rwa [show i - ((mlN N V f r).length + (0 + 1)) = k by omega] at this
        · have hi2 := ih (r + 1) (by omega)
          rw [mlN_s, if_neg q, List.append_nil] at hi2
          rw [nI_1]
          exact hi2 hl
    exact L ((N + 1) ^ V) 0 (by omega) (Nat.zero_le _)
theorem s12_counting (M : mT h b N ns V st wt) (S : mS h N V f) {x y : Int32} (H1 : ∀ i j r h', x = nI i → (mlN N V f ((N + 1) ^ V))[i]? = some r → r < (N + 1) ^ V → y = nI j → j < V → fr [106] [] h h' → Q (some (.int (nI (dg (N + 1) V r j)))) h')
    (H0 : ((x < 0 ∨ nI (mlN N V f ((N + 1) ^ V)).length ≤ x) ∨ (y < 0 ∨ nI V ≤ y)) → Q (some (.int (-1))) h) : zC mX12_counting [.ref 84, .int x, .int y] h Q := by
  have hp := pw_le M.N3 M.V8
  have hV := M.V8
  refine nX12_counting _ _ _ _ _ (bX12_counting_0 _ _ _ _ _ ⟨M.l.o, s12_rowOf M S (fun i r e1 e2 e3 => ⟨_, rfl, br_f (nI_pos (by omega)) ⟨M.l.o, s12_isVoter M (fun q => ⟨_, rfl, br_t rfl (H0 (Or.inr q))⟩) (fun j hj ej => ⟨_, rfl, br_f (by decide +kernel) ⟨M.l.o, s12_layMarks M (by omega) (fun h1 F1 _ K1 => ⟨rfl, ?_⟩)⟩⟩)⟩⟩) (fun q => ⟨_, rfl, br_t (by decide +kernel) (H0 (Or.inl q))⟩)⟩)
  have M1 := M.fr F1 (by decide)
  subst ej
  refine ⟨M1.l.o, _, M1.l.r38, M1.l.k38, by rw [M1.l.n38]; exact vp_in_nI (by omega) (by decide), ?_⟩
  rw [nI_clamp (by omega), (K1 j hj).1]
  exact H1 i j r h1 e1 e2 e3 rfl hj F1
/-- weights of all who have a mark -/
theorem s12_chosenNow (M : mT h b N ns V st wt) (K : mM h V N mk) (H : Q (some (.int (nI (chF V N st wt mk) + (-1)))) h) : zC mX12_chosenNow [.ref 84] h Q := by
  have hV := M.V8
  have hN := M.N3
  have hb := M.b2
  have v72 : ∀ m, vts V st wt mk 99 0 m ≤ 72 := fun m => Nat.le_trans (vts_le fun v hv => (M.v v hv).2.2.2) (Nat.le_trans (Nat.mul_le_mul_left 9 hV) (by decide))
  have L : ∀ (d n best top : Nat), n + d = N → top ≤ 72 → best ≤ N → Q (some (.int (nI (chs (vts V st wt mk 99 0) d (n + 1) best top) + (-1)))) h → zX mX12_chosenNow 6 [.ref 84, .int (nI best + (-1)), .int (nI top), .int (nI n), .float 0, .float 0] [] h Q := by
    intro d
    induction d with
    | zero =>
      intro n best top hn ht hb H
      exact bX12_chosenNow_6 _ _ _ _ _ _ ⟨M.l.o, s12_nameMany M ⟨_, rfl, br_t (nI_le (by omega) (by omega)) H⟩⟩
    | succ d ih =>
      intro n best top hn ht hb1 H
      have inner : ∀ (e j a : Nat), j + e = V → a + sm (vf st wt mk 99 0 (n + 1)) j e = vts V st wt mk 99 0 (n + 1) → zX mX12_chosenNow 20 [.ref 84, .int (nI best + (-1)), .int (nI top), .int (nI n), .int (nI a), .int (nI j)] [] h Q := by
        intro e
        induction e with
        | zero =>
          intro j a hj ha
          have ha' : a = vts V st wt mk 99 0 (n + 1) := by simpa [sm] using ha
          have hv := v72 (n + 1)
          rw [← ha'] at hv
          rw [chs, ← ha'] at H
          refine bX12_chosenNow_20 _ _ _ _ _ _ _ _ ⟨M.l.o, s12_voterMany M ⟨_, rfl, br_t (nI_le (by omega) (by omega)) ⟨fun q => ⟨fun q2 => ?_, fun q2 => ?_⟩, fun q => ?_⟩⟩⟩
          · rw [nI_leI (by omega) (by omega)] at q
            rw [nI_eq (by omega) (by omega)] at q2
            rw [if_pos q, if_pos q2] at H
            refine bX12_chosenNow_91 _ _ _ _ _ _ _ (br_t (nI_le q (by omega)) ?_)
            rw [nI_1, ← nI_d0']
            exact ih (n + 1) 0 top (by omega) ht (by omega) H
          · rw [nI_leI (by omega) (by omega)] at q
            rw [nI_eq (by omega) (by omega)] at q2
            rw [if_pos q, if_neg q2] at H
            refine bX12_chosenNow_91 _ _ _ _ _ _ _ (br_t (nI_le q (by omega)) ?_)
            rw [nI_1]
            exact ih (n + 1) best top (by omega) ht hb1 H
          · rw [nI_leI (by omega) (by omega)] at q
            rw [if_neg q] at H
            refine bX12_chosenNow_91 _ _ _ _ _ _ _ (br_f (nI_ge (by omega) (by omega)) ?_)
            rw [nI_1, ← nI_dn n]
            exact ih (n + 1) (n + 1) a (by omega) hv (by omega) H
        | succ e ih2 =>
          intro j a hj ha
          obtain ⟨v1, v2, v3, v4⟩ := M.v j (by omega)
          have k1 := K j (by omega)
          have ep : (8 : Int32) * gI h 84 26 + nI j = nI (8 * b + j) := by rw [M.b26, ix8]
          refine bX12_chosenNow_20 _ _ _ _ _ _ _ _ ⟨M.l.o, s12_voterMany M ⟨_, rfl, br_f (nI_ge (by omega) (by omega)) ⟨M.l.o, _, M.l.r38, M.l.k38, by rw [M.l.n38]; exact vp_in_nI (by omega) (by decide), ?_⟩⟩⟩
          rw [nI_clamp (by omega), k1.1, nI_1, nI_eq (by omega) (by omega)]
          refine ⟨fun q => ⟨_, M.l.r19, M.l.k19, by rw [ep, M.l.n19]; exact vp_in_nI (by omega) (by decide), ?_⟩, fun q => ?_⟩
          · rw [ep, nI_clamp (by omega), v2, nI_add, nI_1]
            refine ih2 (j + 1) _ (by omega) ?_
            rw [sm, show vf st wt mk 99 0 (n + 1) j = wt j by simp [vf, q]; omega] at ha
            omega
          · rw [← nI_0, nI_add, nI_1]
            refine ih2 (j + 1) _ (by omega) ?_
            rw [sm, show vf st wt mk 99 0 (n + 1) j = 0 by simp [vf, q]] at ha
            omega
      exact bX12_chosenNow_6 _ _ _ _ _ _ ⟨M.l.o, s12_nameMany M ⟨_, rfl, br_f (nI_ge (by omega) (by omega)) (inner V 0 0 (by omega) (by rw [Nat.zero_add]; rfl))⟩⟩
  have L0 := L N 0 0 0 (by omega) (by omega) (by omega) H
  rw [nI_d0'] at L0
  exact nX12_chosenNow _ _ _ (bX12_chosenNow_0 _ _ _ L0)
theorem s12_chosen (M : mT h b N ns V st wt) (S : mS h N V f) {x : Int32} (H1 : ∀ i r h', x = nI i → (mlN N V f ((N + 1) ^ V))[i]? = some r → r < (N + 1) ^ V → fr [106] [] h h' → Q (some (.int (nI (chF V N st wt (dg (N + 1) V r)) + (-1)))) h')
    (H0 : (x < 0 ∨ nI (mlN N V f ((N + 1) ^ V)).length ≤ x) → Q (some (.int (-2))) h) : zC mX12_chosen [.ref 84, .int x] h Q := by
  have hp := pw_le M.N3 M.V8
  refine nX12_chosen _ _ _ _ (bX12_chosen_0 _ _ _ _ ⟨M.l.o, s12_rowOf M S (fun i r e1 e2 e3 => ⟨_, rfl, br_t (nI_pos' (by omega)) ⟨M.l.o, s12_layMarks M (by omega) (fun h1 F1 _ K1 => ⟨rfl, ?_⟩)⟩⟩) (fun q => ⟨_, rfl, br_f (by decide +kernel) (H0 q)⟩)⟩)
  have M1 := M.fr F1 (by decide)
  exact ⟨M1.l.o, s12_chosenNow M1 K1 ⟨_, rfl, H1 i r h1 e1 e2 e3 F1⟩⟩
end

/-! ===== the class: rows sorted ===== -/
section
variable {h h' : zH} {t N V : Nat} {st wt mk : Nat → Nat} {Q : Option Value → zH → Prop} {X : List Nat} {Y : List (Nat × Nat)}
/-- a row of ints that begins as a list -/
def lsR (f : Nat → Int32) (l : List Nat) : Prop := ∀ i x, l[i]? = some x → f i = nI x
theorem lsR_nil {f : Nat → Int32} : lsR f [] := fun i x h => by simp at h
theorem lsR_snoc {f g : Nat → Int32} {l : List Nat} {x : Nat} (h : lsR f l) (h1 : g l.length = nI x) (h2 : ∀ j, j < l.length → g j = f j) : lsR g (l ++ [x]) := fun i y e => by
  rcases Nat.lt_trichotomy i l.length with z | z | z
  · rw [List.getElem?_append_left z] at e
    rw [h2 i z]; exact h i y e
  · subst z
    simp at e
    rw [h1, e]
  · rw [List.getElem?_append_right (by omega), List.getElem?_eq_none (by simp; omega)] at e
    cases e
theorem lsR_c {f g : Nat → Int32} {l : List Nat} (h : lsR f l) (h2 : ∀ j, j < l.length → g j = f j) : lsR g l := fun i x e => by
  have : i < l.length := (List.getElem?_eq_some_iff.mp e).1
  rw [h2 i this]; exact h i x e
/-- who breaks: f v is what v says of mk -/
def brV (V : Nat) (f mk : Nat → Nat) : Nat := en 2 V (fun v => if mk v = f v then 0 else 1)
def kpV (V : Nat) (f mk : Nat → Nat) : Nat := en 2 V (fun v => if mk v = f v then 1 else 0)
def stB (V : Nat) (f mk : Nat → Nat) : Bool := (List.range V).all (fun v => decide (f v = mk v))
theorem stB_iff {V : Nat} {f mk : Nat → Nat} : stB V f mk = true ↔ ∀ v, v < V → f v = mk v := by simp [stB]
def nrB (V : Nat) (f mk : Nat → Nat) : Bool := decide (pcF (brV V f mk) ≤ 3)
theorem s5_brokenBits {r : Nat} {f : Nat → Nat} (hr : r < 4 ^ V) (hV : V ≤ 8) (hf : ∀ v, v < V → f v ≤ 3) (H : Q (some (.int (nI (en 4 V (fun v => if dg 4 V r v = f v then 0 else 1))))) h) : zC mX5_brokenBits [.int (nI r), .int (nI (en 4 V f))] h Q := by
  have er : en 4 V (dg 4 V r) = r := en_dg (by decide) hr
  have d4 : ∀ v, v < V → dg 4 V r v < 4 := fun v _ => dg_lt (by decide)
  have f4 : ∀ v, v < V → f v < 4 := fun v hv => Nat.lt_succ_of_le (hf v hv)
  have x4 : ∀ v, v < V → dg 4 V r v ^^^ f v < 4 := fun v hv => Nat.xor_lt_two_pow (n := 2) (d4 v hv) (f4 v hv)
  have hx : en 4 V (fun v => dg 4 V r v ^^^ f v) < 4 ^ V := en_lt x4
  have p4 : 4 ^ V ≤ 65536 := Nat.le_trans (Nat.pow_le_pow_right (by decide) hV) (by decide)
  refine nX5_brokenBits _ _ _ _ (bX5_brokenBits_0 _ _ _ _ ?_)
  rw [nI_xor]
  conv => arg 1; rw [← er]
  rw [en4_xor d4 f4, pk_shrN (by omega) _ 1 (by decide +kernel), nI_or, nI_lit 21845, nI_and]
  have e1 : (en 4 V (fun v => dg 4 V r v ^^^ f v) ||| en 4 V (fun v => dg 4 V r v ^^^ f v) / 2 ^ 1) < 4 ^ V := by
    rw [p42]
    refine Nat.or_lt_two_pow (by rw [← p42]; exact hx) (by rw [← p42]; exact Nat.lt_of_le_of_lt (Nat.div_le_self _ _) hx)
  rw [msk e1, cst hV m5, show (2 : Nat) ^ 1 = 2 from rfl, en4_nz x4]
  rw [en_congr (m' := fun v => if dg 4 V r v = f v then 0 else 1) (fun v hv => by
    by_cases z : dg 4 V r v = f v
    · rw [if_pos z, if_pos ((dd5 _ (d4 v hv) _ (f4 v hv)).mpr z)]
    · rw [if_neg z, if_neg (fun y => z ((dd5 _ (d4 v hv) _ (f4 v hv)).mp y))])]
  exact H
theorem s5_keptBits {g : Nat → Nat} (hV : V ≤ 8) (hg : ∀ v, v < V → g v < 2) (H : Q (some (.int (nI (en 2 V (fun v => 1 - g v))))) h) : zC mX5_keptBits [.int (nI (en 4 V g)), .int (nI (4 ^ V))] h Q := by
  have p4 : 4 ^ V ≤ 65536 := Nat.le_trans (Nat.pow_le_pow_right (by decide) hV) (by decide)
  have p1 : 0 < 4 ^ V := Nat.pow_pos (by decide)
  have g4 : ∀ v, v < V → g v < 4 := fun v hv => Nat.lt_trans (hg v hv) (by decide)
  have e : ((nI (en 4 V g) ^^^ (-1 : Int32)) &&& (21845 : Int32)) &&& (nI (4 ^ V) - (1 : Int32)) = nI (en 4 V (fun v => 1 - g v)) := by
    rw [nI_lit 21845, nI_nand, nI_lit 1, nI_sub (by omega), nI_and]
    congr 1
    have h1 : ∀ x : Nat, x &&& (4 ^ V - 1) = x % 4 ^ V := fun x => by rw [p42]; exact Nat.and_two_pow_sub_one_eq_mod x (2 * V)
    rw [h1]
    have h2 : (21845 ^^^ (21845 &&& en 4 V g)) % 4 ^ V = (21845 % 4 ^ V) ^^^ ((21845 % 4 ^ V) &&& en 4 V g) := by
      have hl : en 4 V g % 2 ^ (2 * V) = en 4 V g := Nat.mod_eq_of_lt (by rw [← p42]; exact en_lt g4)
      rw [p42, Nat.xor_mod_two_pow, Nat.and_mod_two_pow, hl]
    rw [h2, cst hV m5, en4_and (fun _ _ => by decide) g4, en4_xor (fun _ _ => by decide) (fun v hv => Nat.and_lt_two_pow (n := 2) _ (g4 v hv))]
    refine en_congr (fun v hv => ?_)
    have : ∀ x, x < 2 → 1 ^^^ (1 &&& x) = 1 - x := by decide
    exact this _ (hg v hv)
  refine nX5_keptBits _ _ _ _ (bX5_keptBits_0 _ _ _ _ ?_)
  rw [e]
  refine s5_narrowed (by have := en_lt (fun v (_ : v < V) => (by omega : 1 - g v < 4)); omega) ⟨_, rfl, ?_⟩
  rw [nar_en hV (fun v hv => by omega)]
  exact H
theorem sort_i {f : Nat → Nat → Nat} {n : Nat} : True := trivial
def slN (N V : Nat) (f : (Nat → Nat) → Nat → Nat) (n : Nat) : List Nat := (List.range n).filter (fun r => cbB N V r && stB V (f (dg 4 V r)) (dg 4 V r))
def nlN (N V : Nat) (f : (Nat → Nat) → Nat → Nat) (n : Nat) : List Nat := (List.range n).filter (fun r => cbB N V r && nrB V (f (dg 4 V r)) (dg 4 V r))
theorem flt_len (p : Nat → Bool) (n m : Nat) (h : n ≤ m) : ((List.range n).filter p).length ≤ ((List.range m).filter p).length := by
  induction m with
  | zero => have : n = 0 := by omega
            subst this; exact Nat.le_refl _
  | succ m ih =>
    rcases Nat.lt_or_ge n (m + 1) with z | z
    · rw [filter_range_s, List.length_append]
      exact Nat.le_trans (ih (by omega)) (Nat.le_add_right _ _)
    · have : n = m + 1 := by omega
      subst this; exact Nat.le_refl _
theorem flt_le (p : Nat → Bool) (n : Nat) : ((List.range n).filter p).length ≤ n := by
  have := List.length_filter_le p (List.range n)
  rwa [List.length_range] at this
/-- a near row's entry -/
def nrE (N V : Nat) (st wt : Nat → Nat) (r : Nat) : Nat := r ||| chF V N st wt (dg 4 V r) * 65536
theorem s5_sort {tc nc sc : Nat} {f : (Nat → Nat) → Nat → Nat} (T : cT h t N V st wt) (o12 : oK h 12 5) (r1 : gR h 12 1 = some 15) (k15 : iK h 15 0) (n15 : aN h 15 = 256)
    (r2 : gR h 12 2 = some sc) (k2 : iK h sc 0) (hsz : 4 ^ V ≤ aN h sc) (hsz2 : aN h sc ≤ 65536) (c2 : (16 ≤ sc ∧ sc ≤ 18) ∨ 126 ≤ sc)
    (r3 : gR h 12 3 = some tc) (k3 : iK h tc 0) (n3 : aN h tc ≤ 2 ^ 30) (c3 : (16 ≤ tc ∧ tc ≤ 18) ∨ 126 ≤ tc)
    (r4 : gR h 12 4 = some nc) (k4 : iK h nc 0) (n4 : aN h nc ≤ 2 ^ 30) (c4 : (16 ≤ nc ∧ nc ≤ 18) ∨ 126 ≤ nc) (d1 : sc ≠ tc) (d2 : sc ≠ nc) (d3 : tc ≠ nc)
    (D : sdR h sc N V (fun r => f (dg 4 V r))) (l3 : (slN N V f (4 ^ V)).length ≤ aN h tc) (l4 : (nlN N V f (4 ^ V)).length ≤ aN h nc)
    (H : ∀ h', fr [15, tc, nc] [(12, 5), (12, 6)] h h' → gI h' 12 5 = nI (slN N V f (4 ^ V)).length → gI h' 12 6 = nI (nlN N V f (4 ^ V)).length → lsR (aI h' tc) (slN N V f (4 ^ V)) → lsR (aI h' nc) ((nlN N V f (4 ^ V)).map (nrE N V st wt)) →
      (∀ s, s < 256 → (aI h' 15 s = 1 ∧ ∃ r, r < 4 ^ V ∧ cbB N V r = true ∧ kpV V (f (dg 4 V r)) (dg 4 V r) = s) ∨ (aI h' 15 s = 0 ∧ ¬ ∃ r, r < 4 ^ V ∧ cbB N V r = true ∧ kpV V (f (dg 4 V r)) (dg 4 V r) = s)) → Q none h') :
    zC mX5_sort [.ref 12, .int (nI (4 ^ V)), .ref t] h Q := by
  have hV := T.V8
  have hN := T.N3
  have p4 : 4 ^ V ≤ 65536 := Nat.le_trans (Nat.pow_le_pow_right (by decide) hV) (by decide)
  have TX : ∀ k : Nat, (k = 26 ∨ k = 70 ∨ k = 77) → okT [15, tc, nc] [(12, 5), (12, 6)] k = true := fun k hk => by
    simp only [okT, List.all_cons, List.all_nil, and_true, Bool.and_eq_true, Bool.not_eq_true', List.contains_eq_mem, decide_eq_false_iff_not, List.mem_cons, List.not_mem_nil, or_false, Bool.and_true]
    rcases hk with rfl | rfl | rfl <;> simp <;> omega
  have TX3 : (okT [15, tc, nc] [(12, 5), (12, 6)] 26 && (okT [15, tc, nc] [(12, 5), (12, 6)] 70 && okT [15, tc, nc] [(12, 5), (12, 6)] 77)) = true := by
    rw [TX 26 (by simp), TX 70 (by simp), TX 77 (by simp)]; rfl
  have scX : sc ∉ [15, tc, nc] := by simp; omega
  have main : ∀ (k r : Nat) (h0 : zH), r + k = 4 ^ V → fr [15, tc, nc] [(12, 5), (12, 6)] h h0 → gI h0 12 5 = nI (slN N V f r).length → gI h0 12 6 = nI (nlN N V f r).length → lsR (aI h0 tc) (slN N V f r) → lsR (aI h0 nc) ((nlN N V f r).map (nrE N V st wt)) →
      (∀ s, s < 256 → (aI h0 15 s = 1 ∧ ∃ r', r' < r ∧ cbB N V r' = true ∧ kpV V (f (dg 4 V r')) (dg 4 V r') = s) ∨ (aI h0 15 s = 0 ∧ ¬ ∃ r', r' < r ∧ cbB N V r' = true ∧ kpV V (f (dg 4 V r')) (dg 4 V r') = s)) →
      zX mX5_sort 20 [.ref 12, .int (nI (4 ^ V)), .ref t, .int (nI r), .float 0] [] h0 Q := by
    intro k
    induction k with
    | zero =>
      intro r h0 hr F g5 g6 a3 a4 a5
      have : r = 4 ^ V := by omega
      subst this
      exact bX5_sort_20 _ _ _ _ _ _ (br_t (nI_le (Nat.le_refl _) (by omega)) (H h0 F g5 g6 a3 a4 a5))
    | succ k ih =>
      intro r h0 hr F g5 g6 a3 a4 a5
      have T0 := T.fr F TX3
      have o0 := F.o o12
      refine bX5_sort_20 _ _ _ _ _ _ (br_f (nI_ge (by omega) (by omega)) ⟨T0.o, s10_canBe T0 (by omega) (fun hc => ⟨_, rfl, br_f (by decide +kernel) ?_⟩) (fun hc => ⟨_, rfl, br_t rfl ?_⟩)⟩)
      · have hcb : cbB N V r = true := cbB_iff.mpr hc
        have er : en 4 V (dg 4 V r) = r := en_dg (by decide) (by omega)
        have hm3 : ∀ v, v < V → dg 4 V r v ≤ 3 := fun v hv => Nat.le_trans (hc v hv) hN
        have dr := D r (by omega) hcb
        generalize hb : (fun v => if dg 4 V r v = f (dg 4 V r) v then 0 else 1) = b
        have b2 : ∀ v, v < V → b v < 2 := fun v _ => by rw [← hb]; show (if _ then _ else _) < 2; split <;> omega
        have ekp : en 2 V (fun v => 1 - b v) = kpV V (f (dg 4 V r)) (dg 4 V r) := en_congr (fun v _ => by rw [← hb]; show 1 - (if _ then _ else _) = _; split <;> rfl)
        have ebr : en 2 V b = brV V (f (dg 4 V r)) (dg 4 V r) := by rw [← hb]; rfl
        have kp256 : kpV V (f (dg 4 V r)) (dg 4 V r) < 256 := Nat.lt_of_lt_of_le (en_lt (fun v _ => by split <;> omega)) (Nat.le_trans (Nat.pow_le_pow_right (by decide) hV) (by decide))
        have r20 : gR h0 12 2 = some sc := by rw [F.gr (by decide)]; exact r2
        refine ⟨o0, _, r20, s11_atN (F.ik k2) (F.n sc) (by omega) (by omega) ⟨_, rfl, ?_⟩⟩
        rw [F.i scX, dr.1]
        refine s5_brokenBits (by omega) hV dr.2 ⟨_, rfl, o0, _, by rw [F.gr (by decide)]; exact r1, ?_⟩
        rw [hb]
        refine s5_keptBits hV b2 ⟨_, rfl, ?_⟩
        rw [ekp]
        refine s11_putN (F.ik k15) (by rw [F.n]; exact n15) kp256 (by decide) (fun h1 e1 => ⟨rfl, s6_bitCount2 hV b2 ⟨_, rfl, ?_⟩⟩)
        have F1 : fr [15, tc, nc] [(12, 5), (12, 6)] h0 h1 := by rw [e1]; exact fr_pI (by simp)
        have T1 := T0.fr F1 TX3
        have o1 := F1.o o0
        have FF1 := F.tr F1
        have t15 : tc ≠ 15 := by omega
        have n15' : nc ≠ 15 := by omega
        have c5 : ∀ s, s < 256 → (aI h1 15 s = 1 ∧ ∃ r', r' < r + 1 ∧ cbB N V r' = true ∧ kpV V (f (dg 4 V r')) (dg 4 V r') = s) ∨ (aI h1 15 s = 0 ∧ ¬ ∃ r', r' < r + 1 ∧ cbB N V r' = true ∧ kpV V (f (dg 4 V r')) (dg 4 V r') = s) := fun s hs => by
          by_cases z : s = kpV V (f (dg 4 V r)) (dg 4 V r)
          · exact Or.inl ⟨by rw [e1, z]; exact aI_pI_s ⟨_, F.ik k15⟩, r, Nat.lt_succ_self r, hcb, z.symm⟩
          · have : aI h1 15 s = aI h0 15 s := by rw [e1, aI_pI_n (Or.inr z)]
            rw [this]
            rcases a5 s hs with ⟨q1, r', q2, q3, q4⟩ | ⟨q1, q2⟩
            · exact Or.inl ⟨q1, r', by omega, q3, q4⟩
            · refine Or.inr ⟨q1, fun ⟨r', y1, y2, y3⟩ => ?_⟩
              by_cases w : r' = r
              · subst w; exact z y3.symm
              · exact q2 ⟨r', by omega, y2, y3⟩
        rw [ebr]
        -- the standing ones
        have stand : ∀ h2 : zH, fr [15, tc, nc] [(12, 5), (12, 6)] h1 h2 → gI h2 12 5 = nI (slN N V f r).length → aI h2 tc = aI h0 tc → aI h2 15 = aI h1 15 → gI h2 12 6 = nI (nlN N V f (r + 1)).length → lsR (aI h2 nc) ((nlN N V f (r + 1)).map (nrE N V st wt)) →
            zX mX5_sort 101 [.ref 12, .int (nI (4 ^ V)), .ref t, .int (nI r), .int (nI (en 4 V b))] [] h2 Q := fun h2 F2 q5 q3 q15 q6 q4 => by
          have o2 := F2.o o1
          have FF2 := FF1.tr F2
          have hs0 : nI (en 4 V b) = 0 ↔ stB V (f (dg 4 V r)) (dg 4 V r) = true := by
            rw [← nI_0, nI_eq (by have := en_lt (fun v hv => (Nat.lt_trans (b2 v hv) (by decide) : b v < 4)); omega) (by decide), en_e0 (by decide), stB_iff]
            constructor
            · intro z v hv
              have := z v hv
              rw [← hb] at this
              by_cases y : dg 4 V r v = f (dg 4 V r) v
              · exact y.symm
              · simp [y] at this
            · intro z v hv
              rw [← hb]
              simp [z v hv]
          have es : slN N V f (r + 1) = slN N V f r ++ (if stB V (f (dg 4 V r)) (dg 4 V r) then [r] else []) := by
            rw [slN, filter_range_s, hcb, Bool.true_and]; rfl
          refine bX5_sort_101 _ _ _ _ _ _ _ ⟨fun q => ?_, fun q => ?_⟩
          · rw [hs0] at q
            rw [if_pos q] at es
            have hl : (slN N V f r).length < aN h tc := by
              have := flt_len (fun r => cbB N V r && stB V (f (dg 4 V r)) (dg 4 V r)) (r + 1) (4 ^ V) (by omega)
              have e2 := congrArg List.length es
              simp only [List.length_append, List.length_cons, List.length_nil] at e2
              unfold slN at l3 e2 ⊢
              omega
            refine ⟨o2, _, by rw [FF2.gr (by decide)]; exact r3, ?_⟩
            rw [q5]
            refine s11_putN (FF2.ik k3) (FF2.n tc) hl (by omega) (fun h3 e3 => ⟨rfl, ?_⟩)
            have F3 : fr [15, tc, nc] [(12, 5), (12, 6)] h2 h3 := by rw [e3]; exact fr_pI (by simp)
            refine ⟨F3.o o2, fun h4 e4 => ?_⟩
            have F4 : fr [15, tc, nc] [(12, 5), (12, 6)] h3 h4 := by rw [e4]; exact fr_pF (by simp) (F3.o o2) rfl rfl
            rw [nI_1]
            refine ih (r + 1) h4 (by omega) ((FF2.tr F3).tr F4) ?_ ?_ ?_ ?_ ?_
            · rw [e4, gI_pF_s (F3.o o2) (by decide), e3, gI_pI, q5, nI_1, es]; simp
            · rw [e4, gI_pF_n (Or.inr (by decide)), e3, gI_pI]; exact q6
            · rw [es]
              refine lsR_snoc a3 ?_ (fun j hj => ?_)
              · rw [e4, aI_pF, e3, aI_pI_s ⟨_, FF2.ik k3⟩]
              · rw [e4, aI_pF, e3, aI_pI_n (Or.inr (by omega)), q3]
            · refine lsR_c q4 (fun j _ => ?_)
              rw [e4, aI_pF, e3, aI_pI_n (Or.inl (Ne.symm d3))]
            · intro s hs
              have := c5 s hs
              rw [e4, aI_pF, e3, aI_pI_n (Or.inl (by omega)), q15]
              exact this
          · rw [hs0] at q
            rw [if_neg q, List.append_nil] at es
            rw [nI_1]
            refine ih (r + 1) h2 (by omega) FF2 (by rw [es]; exact q5) q6 (by rw [es, q3]; exact a3) q4 (fun s hs => ?_)
            have := c5 s hs
            rw [q15]
            exact this
        have hp31 : pcF (brV V (f (dg 4 V r)) (dg 4 V r)) ≤ 31 := by
          refine Nat.le_trans (sm_le _ 1 31 0 (fun i _ _ => ?_)) (by decide)
          have := Nat.mod_lt (brV V (f (dg 4 V r)) (dg 4 V r) / 2 ^ i) (by decide : 2 > 0)
          omega
        have en' : nlN N V f (r + 1) = nlN N V f r ++ (if nrB V (f (dg 4 V r)) (dg 4 V r) then [r] else []) := by
          rw [nlN, filter_range_s, hcb, Bool.true_and]; rfl
        have i3 : aI h1 tc = aI h0 tc := by rw [e1]; exact funext fun j => aI_pI_n (Or.inl t15)
        have i4 : aI h1 nc = aI h0 nc := by rw [e1]; exact funext fun j => aI_pI_n (Or.inl n15')
        have g51 : gI h1 12 5 = nI (slN N V f r).length := by rw [e1, gI_pI]; exact g5
        have g61 : gI h1 12 6 = nI (nlN N V f r).length := by rw [e1, gI_pI]; exact g6
        refine ⟨fun q => ?_, fun q => ?_⟩
        · have q' : ¬ nrB V (f (dg 4 V r)) (dg 4 V r) = true := by
            rw [nI_lit 3, nI_ltI (by decide) (by omega)] at q
            simp [nrB]; omega
          rw [if_neg q', List.append_nil] at en'
          exact stand h1 fr.rf g51 i3 rfl (by rw [en']; exact g61) (by rw [en', i4]; exact a4)
        · have q' : nrB V (f (dg 4 V r)) (dg 4 V r) = true := by
            rw [nI_lit 3, nI_ltI (by decide) (by omega)] at q
            simp [nrB]; omega
          rw [if_pos q'] at en'
          have hl : (nlN N V f r).length < aN h nc := by
            have := flt_len (fun r => cbB N V r && nrB V (f (dg 4 V r)) (dg 4 V r)) (r + 1) (4 ^ V) (by omega)
            have e2 := congrArg List.length en'
            simp only [List.length_append, List.length_cons, List.length_nil] at e2
            unfold nlN at l4 e2 ⊢
            omega
          have hch : chF V N st wt (dg 4 V r) ≤ 3 := Nat.le_trans (chs_le _ N N 1 0 0 (Nat.zero_le _) (by omega)) hN
          refine ⟨o1, _, by rw [FF1.gr (by decide)]; exact r4, T1.o, ?_⟩
          conv => arg 2; rw [← er]
          refine s10_chosenIn T1 hm3 ⟨_, rfl, ?_⟩
          rw [g61, pk_shlN _ 16 (by decide +kernel) (by omega), nI_or]
          refine s11_putN (FF1.ik k4) (FF1.n nc) hl (by omega) (fun h2 e2 => ⟨rfl, ?_⟩)
          have F2 : fr [15, tc, nc] [(12, 5), (12, 6)] h1 h2 := by rw [e2]; exact fr_pI (by simp)
          refine ⟨F2.o o1, fun h3 e3 => ?_⟩
          have F3 : fr [15, tc, nc] [(12, 5), (12, 6)] h2 h3 := by rw [e3]; exact fr_pF (by simp) (F2.o o1) rfl rfl
          refine stand h3 (F2.tr F3) ?_ ?_ ?_ ?_ ?_
          · rw [e3, gI_pF_n (Or.inr (by decide)), e2, gI_pI]; exact g51
          · rw [e3, show aI (pF h2 12 6 (.int (gI h2 12 6 + 1))) tc = aI h2 tc from funext fun j => aI_pF, e2, ← i3]; exact funext fun j => aI_pI_n (Or.inl d3)
          · rw [e3, show aI (pF h2 12 6 (.int (gI h2 12 6 + 1))) 15 = aI h2 15 from funext fun j => aI_pF, e2]; exact funext fun j => aI_pI_n (Or.inl (by omega))
          · rw [e3, gI_pF_s (F2.o o1) (by decide), e2, gI_pI, g61, nI_1, en']; simp
          · rw [en', List.map_append]
            refine lsR_snoc (f := aI h1 nc) (by rw [i4]; exact a4) ?_ (fun j hj => ?_)
            · rw [List.length_map, e3, aI_pF, e2, aI_pI_s ⟨_, FF1.ik k4⟩]; rfl
            · rw [List.length_map] at hj
              rw [e3, aI_pF, e2, aI_pI_n (Or.inr (by omega))]
      · have hcb : ¬ cbB N V r = true := fun z => hc (cbB_iff.mp z)
        have es : slN N V f (r + 1) = slN N V f r := by
          rw [slN, filter_range_s]; simp [hcb, slN]
        have en' : nlN N V f (r + 1) = nlN N V f r := by
          rw [nlN, filter_range_s]; simp [hcb, nlN]
        rw [nI_1]
        refine ih (r + 1) h0 (by omega) F (by rw [es]; exact g5) (by rw [en']; exact g6) (by rw [es]; exact a3) (by rw [en']; exact a4) (fun s hs => ?_)
        rcases a5 s hs with ⟨q1, r', q2, q3, q4⟩ | ⟨q1, q2⟩
        · exact Or.inl ⟨q1, r', by omega, q3, q4⟩
        · refine Or.inr ⟨q1, fun ⟨r', y1, y2, y3⟩ => ?_⟩
          by_cases w : r' = r
          · subst w; exact hcb y2
          · exact q2 ⟨r', by omega, y2, y3⟩
  refine nX5_sort _ _ _ _ _ (bX5_sort_0 _ _ _ _ _ ⟨o12, fun h2 e2 h4 e4 => ?_⟩)
  have F2 : fr [15, tc, nc] [(12, 5), (12, 6)] h h2 := by rw [e2]; exact fr_pF (by simp) o12 rfl rfl
  have F4 : fr [15, tc, nc] [(12, 5), (12, 6)] h2 h4 := by rw [e4]; exact fr_pF (by simp) (F2.o o12) rfl rfl
  have F := F2.tr F4
  refine ⟨_, by rw [F.gr (by decide)]; exact r1, s7_fill (F.ik k15) ((F.n 15).trans n15) (by decide) (fun h7 F7 z7 => ⟨rfl, ?_⟩)⟩
  have F7' : fr [15, tc, nc] [(12, 5), (12, 6)] h4 h7 := F7.mo (fun k hk => by simp at hk; simp [hk]) (fun k hk => by simp at hk)
  refine main (4 ^ V) 0 h7 (by omega) (F.tr F7') ?_ ?_ ?_ ?_ ?_
  · rw [F7.gi (by simp), e4, gI_pF_n (Or.inr (by decide)), e2, gI_pF_s o12 (by decide)]; rfl
  · rw [F7.gi (by simp), e4, gI_pF_s (F2.o o12) (by decide)]; rfl
  · exact lsR_nil
  · exact lsR_nil
  · intro s hs
    exact Or.inr ⟨z7 s hs, fun ⟨r', y, _⟩ => absurd y (Nat.not_lt_zero _)⟩
end

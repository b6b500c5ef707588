/-! ===== the class: sway ===== -/
section
variable {h h' : zH} {Q : Option Value → zH → Prop} {X : List Nat} {Y : List (Nat × Nat)} {t V N : Nat} {st wt : Nat → Nat} {f : (Nat → Nat) → Nat → Nat}
theorem sm_sh (F : Nat → Nat) : ∀ (d j : Nat), sm F (j + 1) d = sm (fun i => F (i + 1)) j d
  | 0, _ => rfl
  | d + 1, j => by rw [sm, sm, sm_sh F d (j + 1)]
theorem pc_2 {x c : Nat} (hx : x < 2 ^ 30) (hc : c < 2) : pcF (x * 2 + c) = c + pcF x := by
  have e1 : pcF (x * 2 + c) = (x * 2 + c) / 2 ^ 0 % 2 + sm (fun v => (x * 2 + c) / 2 ^ v % 2) (0 + 1) 30 := rfl
  have e2 : sm (fun v => (x * 2 + c) / 2 ^ v % 2) (0 + 1) 30 = sm (fun v => x / 2 ^ v % 2) 0 30 := by
    rw [sm_sh]
    refine sm_congr 30 0 (fun i _ _ => ?_)
    show (x * 2 + c) / 2 ^ (i + 1) % 2 = x / 2 ^ i % 2
    rw [Nat.pow_succ, Nat.mul_comm (2 ^ i) 2, ← Nat.div_div_eq_div_mul, show (x * 2 + c) / 2 = x by omega]
  have e3 : pcF x = sm (fun v => x / 2 ^ v % 2) 0 30 + x / 2 ^ 30 % 2 := by
    have := sm_last (fun v => x / 2 ^ v % 2) 30 0
    rw [Nat.zero_add] at this
    exact this
  rw [e1, e2, e3, Nat.div_eq_of_lt hx, Nat.pow_zero, Nat.div_one]
  omega
theorem pc_en : ∀ {W : Nat} {g : Nat → Nat}, W ≤ 30 → (∀ v, v < W → g v < 2) → pcF (en 2 W g) = sm g 0 W
  | 0, _, _, _ => pcF_z
  | k + 1, g, hW, hg => by
    have h1 : en 2 k g < 2 ^ k := en_lt (fun v hv => hg v (by omega))
    have h2 : en 2 k g < 2 ^ 30 := Nat.lt_of_lt_of_le h1 (Nat.pow_le_pow_right (by decide) (by omega))
    rw [en, pc_2 h2 (hg k (by omega)), pc_en (by omega) (fun v hv => hg v (by omega)), sm_last, Nat.zero_add]
    omega
theorem sm_mono {F G : Nat → Nat} : ∀ (d j : Nat), (∀ i, j ≤ i → i < j + d → F i ≤ G i) → sm F j d ≤ sm G j d
  | 0, _, _ => Nat.le_refl _
  | d + 1, j, h => by
    have a := h j (Nat.le_refl _) (by omega)
    have b := sm_mono d (j + 1) (fun i x y => h i (by omega) (by omega))
    rw [sm, sm]; omega
/-- a class's row that breaks none but those of a set -/
def cinS (V : Nat) (f : (Nat → Nat) → Nat → Nat) (s r : Nat) : Bool := (List.range V).all (fun v => s.testBit v || decide (f (dg 4 V r) v = dg 4 V r v))
theorem cinS_iff {s r : Nat} : cinS V f s r = true ↔ ∀ v, v < V → s.testBit v = false → f (dg 4 V r) v = dg 4 V r v := by
  simp only [cinS, List.all_eq_true, List.mem_range, Bool.or_eq_true, decide_eq_true_eq]
  constructor
  · intro e v hv hs
    rcases e v hv with z | z
    · rw [hs] at z; cases z
    · exact z
  · intro e v hv
    cases hs : s.testBit v
    · exact Or.inr (e v hv hs)
    · exact Or.inl rfl
theorem near_of {s : Nat} {g mk : Nat → Nat} (hV : V ≤ 8) (h3 : pcF s ≤ 3) (h : ∀ v, v < V → s.testBit v = false → g v = mk v) : nrB V g mk = true := by
  have b2 : ∀ v, v < V → (if mk v = g v then 0 else 1) < 2 := fun v _ => by split <;> omega
  have e1 := pc_en (W := V) (by omega) b2
  have e2 : sm (fun v => if mk v = g v then 0 else 1) 0 V ≤ sm (fun v => s / 2 ^ v % 2) 0 V := sm_mono V 0 (fun v _ hv => by
    show (if mk v = g v then 0 else 1) ≤ s / 2 ^ v % 2
    split
    · exact Nat.zero_le _
    · next z =>
      have : s.testBit v = true := by
        cases hs : s.testBit v
        · exact absurd (h v (by omega) hs).symm z
        · rfl
      rw [(tb s v).mpr this]; exact Nat.le_refl _)
  have e3 : sm (fun v => s / 2 ^ v % 2) 0 V ≤ pcF s := by
    have : pcF s = sm (fun v => s / 2 ^ v % 2) 0 (V + (31 - V)) := by rw [show V + (31 - V) = 31 by omega]; rfl
    rw [this, sm_add]; exact Nat.le_add_right _ _
  have e4 : brV V g mk = en 2 V (fun v => if mk v = g v then 0 else 1) := rfl
  simp only [nrB, decide_eq_true_eq]
  rw [e4, e1]
  omega
theorem chF_congr {mk mk' : Nat → Nat} (h : ∀ v, v < V → mk v = mk' v) : chF V N st wt mk = chF V N st wt mk' := by
  have ev : vts V st wt mk 99 0 = vts V st wt mk' 99 0 := funext fun m => sm_congr V 0 (fun v _ hv => by unfold vf; rw [h v (by omega)])
  unfold chF
  rw [ev]
theorem tkP_congr {s : Nat} {m m' : Nat → Nat} : ∀ {v : Nat}, (∀ i, i < v → m i = m' i) → tkP s m v = tkP s m' v
  | 0, _ => rfl
  | v + 1, h => by rw [tkP, tkP, tkP_congr (fun i hi => h i (by omega)), h v (by omega)]
/-- the set's rows with what it is told k -/
def swC (V : Nat) (f : (Nat → Nat) → Nat → Nat) (s k r : Nat) : Bool := cinS V f s r && Nat.beq (tkP s (dg 4 V r) V) k
theorem swB_iff {name s k : Nat} (hV : V ≤ 8) (hN : N ≤ 3) (h3 : pcF s ≤ 3) (hf : fC V f) : swB N V f st wt name s k = true ↔ (∃ r, r ∈ nlN N V f (4 ^ V) ∧ swC V f s k r = true ∧ chF V N st wt (dg 4 V r) = name + 1) ∧ (∀ r, r ∈ nlN N V f (4 ^ V) → swC V f s k r = true → chF V N st wt (dg 4 V r) = name + 1) := by
  -- rows of the reference and of the class
  have to : ∀ r, r ∈ swL N V f s k ((N + 1) ^ V) → crF N V r ∈ nlN N V f (4 ^ V) ∧ swC V f s k (crF N V r) = true ∧ chF V N st wt (dg 4 V (crF N V r)) = chF V N st wt (dg (N + 1) V r) := fun r hr => by
    obtain ⟨m1, m2⟩ := List.mem_filter.mp hr
    rw [Bool.and_eq_true] at m2
    have dc := dg_cr hN (V := V) (r := r)
    have i1 : ∀ v, v < V → s.testBit v = false → f (dg 4 V (crF N V r)) v = dg 4 V (crF N V r) v := fun v hv hs => by
      rw [hf _ _ dc v hv, dc v hv]; exact inS_iff.mp m2.1 v hv hs
    refine ⟨List.mem_filter.mpr ⟨List.mem_range.mpr (crF_lt hN), ?_⟩, ?_, chF_congr dc⟩
    · rw [Bool.and_eq_true]
      exact ⟨cbB_iff.mpr (fun v hv => by rw [dc v hv]; exact Nat.le_of_lt_succ (dg_lt (by omega))), near_of hV h3 i1⟩
    · unfold swC
      rw [Bool.and_eq_true]
      exact ⟨cinS_iff.mpr i1, by rw [tkP_congr dc]; exact m2.2⟩
  have back : ∀ r, r ∈ nlN N V f (4 ^ V) → swC V f s k r = true → ∃ q, q ∈ swL N V f s k ((N + 1) ^ V) ∧ crF N V q = r := fun r hr hs => by
    obtain ⟨m1, m2⟩ := List.mem_filter.mp hr
    rw [Bool.and_eq_true] at m2
    have m : r ∈ (List.range (4 ^ V)).filter (cbB N V) := List.mem_filter.mpr ⟨m1, m2.1⟩
    rw [rows_eq hN, List.mem_map] at m
    obtain ⟨q, q1, rfl⟩ := m
    have dc := dg_cr hN (V := V) (r := q)
    unfold swC at hs
    rw [Bool.and_eq_true] at hs
    refine ⟨q, List.mem_filter.mpr ⟨q1, ?_⟩, rfl⟩
    rw [Bool.and_eq_true]
    refine ⟨inS_iff.mpr (fun v hv hb => ?_), by rw [← tkP_congr dc]; exact hs.2⟩
    have := cinS_iff.mp hs.1 v hv hb
    rw [hf _ _ dc v hv, dc v hv] at this
    exact this
  unfold swB
  rw [Bool.and_eq_true, decide_eq_true_eq, decide_eq_true_eq]
  constructor
  · rintro ⟨a, b⟩
    have all : ∀ r, r ∈ swL N V f s k ((N + 1) ^ V) → cwB V N st wt name r = true := List.length_filter_eq_length_iff.mp b.symm
    refine ⟨?_, fun r hr hs => ?_⟩
    · obtain ⟨r, hr⟩ := List.exists_mem_of_length_pos a
      obtain ⟨t1, t2, t3⟩ := to r hr
      exact ⟨_, t1, t2, by rw [t3]; exact of_decide_eq_true (all r hr)⟩
    · obtain ⟨q, q1, rfl⟩ := back r hr hs
      rw [(to q q1).2.2]; exact of_decide_eq_true (all q q1)
  · rintro ⟨⟨r, hr, hs, hc⟩, all⟩
    obtain ⟨q, q1, rfl⟩ := back r hr hs
    refine ⟨List.length_pos_of_mem q1, (List.length_filter_eq_length_iff.mpr (fun r hr => ?_)).symm⟩
    obtain ⟨t1, t2, t3⟩ := to r hr
    have := all _ t1 t2
    rw [t3] at this
    exact decide_eq_true this
theorem s7_marksOf {s r : Nat} (T : cT h t N V st wt) (hs : s < 2 ^ 31) (hr : r < 4 ^ V) (h3 : pcF s ≤ 3) (H : Q (some (.int (nI (tkP s (dg 4 V r) V)))) h) : zC mX7_marksOf [.int (nI s), .int (nI r), .ref t] h Q := by
  have hV := T.V8
  have m3 : ∀ v, v < V → dg 4 V r v ≤ 3 := fun v _ => Nat.le_of_lt_succ (dg_lt (by decide))
  have er : en 4 V (dg 4 V r) = r := en_dg (by decide) hr
  generalize hm : dg 4 V r = m at *
  have L : ∀ (d i : Nat), i + d = V → zX mX7_marksOf 5 [.int (nI s), .int (nI r), .ref t, .int (nI (tkP s m i)), .int (nI i)] [] h Q := by
    intro d
    induction d with
    | zero =>
      intro i hi
      have : i = V := by omega
      subst this
      exact bX7_marksOf_5 _ _ _ _ _ _ _ ⟨T.o, br_t (by rw [T.e8]; exact nI_le (Nat.le_refl _) (by omega)) H⟩
    | succ d ih =>
      intro i hi
      have nx := ih (i + 1) (by omega)
      have kt := tk_64 (s := s) (v := i) (m := m) (fun j hj => m3 j (by omega)) h3 (by omega)
      have mi := m3 i (by omega)
      rw [tkP] at nx
      refine bX7_marksOf_5 _ _ _ _ _ _ _ ⟨T.o, br_f (by rw [T.e8]; exact nI_ge (by omega) (by omega)) ?_⟩
      rw [nI_bit hs (by omega), nI_1]
      refine ⟨fun q => ?_, fun q => ?_⟩
      · rw [if_pos q] at nx
        have go := s10_markOf (Q := fun r0 h4 => ∃ x5 : Int32, r0 = some (.int x5) ∧ zX mX7_marksOf 5 [.int (nI s), .int (nI r), .ref t, .int ((nI (tkP s m i) <<< ((2 : Int32) &&& 31)) ||| x5), .int (nI (i + 1))] [] h4 Q) T (v := i) (mk := m) (by omega) m3 ⟨_, rfl, ?_⟩
        · rw [er] at go; exact go
        · have e2 : nI (tkP s m i) <<< ((2 : Int32) &&& 31) = nI (tkP s m i * 2 ^ 2) := nI_shl (k := 2) (by decide) (by omega)
          rw [e2, nI_or, Nat.mul_comm, ← Nat.two_pow_add_eq_or_of_lt (by omega : m i < 2 ^ 2)]
          exact nx
      · rw [if_neg q] at nx
        exact nx
  exact nX7_marksOf _ _ _ _ _ (bX7_marksOf_0 _ _ _ _ _ (L V 0 (by omega)))
theorem s7_digits {k n : Nat} (hk : k < 64) (hn : n ≤ 3) (H : Q (some (.int (nI (wrD k n 0)))) h) : zC mX7_digits [.int (nI k), .int (nI n)] h Q := by
  have L : ∀ (i v : Nat), i ≤ 3 → Q (some (.int (nI (wrD k i v)))) h → zX mX7_digits 6 [.int (nI k), .float 0, .int (nI v), .int (nI i + (-1))] [] h Q := by
    intro i
    induction i with
    | zero => intro v _ HH; exact bX7_digits_6 _ _ _ _ _ (br_t nI_d0 HH)
    | succ i ih =>
      intro v hi HH
      rw [nI_dn]
      refine bX7_digits_6 _ _ _ _ _ (br_f (nI_pos (by omega)) ?_)
      rw [nI_lit 2, nI_mul, nI_shr (by omega) (by omega), nI_mod4, nI_lit 10, nI_mul, nI_add, ← p42, Nat.mul_comm v 10]
      exact ih _ (by omega) HH
  refine nX7_digits _ _ _ _ (bX7_digits_0 _ _ _ _ ?_)
  rw [nI_s1]
  exact L n 0 hn H
def cSl (h : zH) : Prop := oK h 21 7 ∧ (gR h 21 0 = some 22 ∧ iK h 22 0 ∧ aN h 22 = 3) ∧ (gR h 21 1 = some 23 ∧ iK h 23 0 ∧ aN h 23 = 3) ∧ (gR h 21 2 = some 24 ∧ iK h 24 0 ∧ aN h 24 = 64)
theorem cSl.fr (L : cSl h) (F : fr X Y h h') (h0 : (21, 0) ∉ Y) (h1 : (21, 1) ∉ Y) (h2 : (21, 2) ∉ Y) : cSl h' :=
  ⟨F.o L.1, ⟨by rw [F.gr h0]; exact L.2.1.1, F.ik L.2.1.2.1, by rw [F.n]; exact L.2.1.2.2⟩, ⟨by rw [F.gr h1]; exact L.2.2.1.1, F.ik L.2.2.1.2.1, by rw [F.n]; exact L.2.2.1.2.2⟩, ⟨by rw [F.gr h2]; exact L.2.2.2.1, F.ik L.2.2.2.2.1, by rw [F.n]; exact L.2.2.2.2.2⟩⟩
theorem nr_and {r c : Nat} (hr : r < 65536) (hc : c ≤ 3) : nI (r ||| c * 65536) &&& (65535 : Int32) = nI r ∧ nI (r ||| c * 65536) >>> ((16 : Int32) &&& 31) = nI c := by
  have e : r ||| c * 65536 = 65536 * c + r := by
    rw [Nat.or_comm, Nat.mul_comm]
    exact (Nat.two_pow_add_eq_or_of_lt (i := 16) hr c).symm
  rw [e]
  refine ⟨?_, ?_⟩
  · rw [pk_andN (by omega) 16 (by decide +kernel)]; congr 1; omega
  · have e2 : nI (65536 * c + r) >>> ((16 : Int32) &&& 31) = nI ((65536 * c + r) / 2 ^ 16) := nI_shr (k := 16) (by omega) (by decide)
    rw [e2]; congr 1; omega
/-- the outcome bits -/
def ocF (V N : Nat) (st wt : Nat → Nat) (f : (Nat → Nat) → Nat → Nat) (name s k : Nat) (l : List Nat) : Nat := (if l.any (fun r => swC V f s k r && decide (chF V N st wt (dg 4 V r) = name + 1)) = true then 1 else 0) + (if l.any (fun r => swC V f s k r && !decide (chF V N st wt (dg 4 V r) = name + 1)) = true then 2 else 0)
theorem oc_s {name s k r : Nat} {l : List Nat} : ocF V N st wt f name s k (l ++ [r]) = if swC V f s k r = true then ocF V N st wt f name s k l ||| (if chF V N st wt (dg 4 V r) = name + 1 then 1 else 2) else ocF V N st wt f name s k l := by
  unfold ocF
  simp only [List.any_append, List.any_cons, List.any_nil, Bool.or_false]
  by_cases z : swC V f s k r = true
  · by_cases w : chF V N st wt (dg 4 V r) = name + 1
    · simp only [z, w, decide_true, Bool.and_self, Bool.or_true, if_true, Bool.not_true, Bool.and_false, Bool.or_false]
      cases (l.any (fun r => swC V f s k r && decide (chF V N st wt (dg 4 V r) = name + 1))) <;> cases (l.any (fun r => swC V f s k r && !decide (chF V N st wt (dg 4 V r) = name + 1))) <;> decide
    · simp only [z, w, decide_false, Bool.and_false, Bool.or_false, if_false, Bool.not_false, Bool.and_true, Bool.or_true, if_true]
      cases (l.any (fun r => swC V f s k r && decide (chF V N st wt (dg 4 V r) = name + 1))) <;> cases (l.any (fun r => swC V f s k r && !decide (chF V N st wt (dg 4 V r) = name + 1))) <;> decide
  · have z' : swC V f s k r = false := by simpa using z
    simp [z']
theorem oc_1 {name s k : Nat} (hV : V ≤ 8) (hN : N ≤ 3) (h3 : pcF s ≤ 3) (hf : fC V f) : ocF V N st wt f name s k (nlN N V f (4 ^ V)) = 1 ↔ swB N V f st wt name s k = true := by
  rw [swB_iff hV hN h3 hf]
  have e1 : (nlN N V f (4 ^ V)).any (fun r => swC V f s k r && decide (chF V N st wt (dg 4 V r) = name + 1)) = true ↔ ∃ r, r ∈ nlN N V f (4 ^ V) ∧ swC V f s k r = true ∧ chF V N st wt (dg 4 V r) = name + 1 := by
    simp only [List.any_eq_true, Bool.and_eq_true, decide_eq_true_eq]
  have e2 : (nlN N V f (4 ^ V)).any (fun r => swC V f s k r && !decide (chF V N st wt (dg 4 V r) = name + 1)) = false ↔ ∀ r, r ∈ nlN N V f (4 ^ V) → swC V f s k r = true → chF V N st wt (dg 4 V r) = name + 1 := by
    rw [List.any_eq_false]
    constructor
    · intro z r hr hs
      have := z r hr
      simp only [hs, Bool.true_and, Bool.not_eq_true', decide_eq_false_iff_not, Classical.not_not] at this
      exact this
    · intro z r hr
      simp only [Bool.and_eq_true, Bool.not_eq_true', decide_eq_false_iff_not, not_and, Classical.not_not]
      exact z r hr
  rw [← e1, ← e2]
  unfold ocF
  cases (nlN N V f (4 ^ V)).any (fun r => swC V f s k r && decide (chF V N st wt (dg 4 V r) = name + 1)) <;> cases (nlN N V f (4 ^ V)).any (fun r => swC V f s k r && !decide (chF V N st wt (dg 4 V r) = name + 1)) <;> simp
theorem oc_3 {name s k : Nat} {l : List Nat} : ocF V N st wt f name s k l ≤ 3 := by
  unfold ocF; split <;> split <;> omega
end

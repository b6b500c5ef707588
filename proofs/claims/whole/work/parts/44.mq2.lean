/-! ===== the reference: who wins; what is left; what is said in earnest ===== -/
section
variable {h h' : zH} {b N ns V xv : Nat} {st wt mk mm : Nat → Nat} {Q : Option Value → zH → Prop} {X : List Nat} {Y : List (Nat × Nat)} {f : (Nat → Nat) → Nat → Nat}
def winA (a won : Nat) : Int32 := if a = 0 then -1 else if won = a then 2 else if won = 0 then 0 else 1
/-- the name is chosen -/
def cwB (V N : Nat) (st wt : Nat → Nat) (name : Nat) (r : Nat) : Bool := decide (chF V N st wt (dg (N + 1) V r) = name + 1)
theorem flt_s (p : Nat → Bool) (r d : Nat) : ((List.range' r (d + 1)).filter p) = if p r then r :: (List.range' (r + 1) d).filter p else (List.range' (r + 1) d).filter p := by
  rw [List.range'_succ, List.filter_cons]
theorem chF_le {V N : Nat} {st wt mk : Nat → Nat} (hN : N ≤ 3) : chF V N st wt mk ≤ 3 := Nat.le_trans (chs_le _ N N 1 0 0 (Nat.zero_le _) (by omega)) hN
theorem s12_wins (M : mT h b N ns V st wt) (S : mS h N V f) {x : Int32} (H1 : ∀ j h', x = nI j → j < N → fr [106] [] h h' → Q (some (.int (winA (mlN N V f ((N + 1) ^ V)).length ((mlN N V f ((N + 1) ^ V)).filter (cwB V N st wt j)).length))) h') (H0 : ∀ h', (x < 0 ∨ nI N ≤ x) → fr [106] [] h h' → Q (some (.int (-1))) h') : zC mX12_wins [.ref 84, .int x] h Q := by
  have hV := M.V8
  have hN := M.N3
  have hpw := pw_le hN hV
  have L : ∀ (k r a won : Nat) (h0 : zH), r + k = (N + 1) ^ V → a ≤ r → won ≤ a → fr [106] [] h h0 → a = (mlN N V f r).length → (∀ j, x = nI j → j < N → won = ((mlN N V f r).filter (cwB V N st wt j)).length) → zX mX12_wins 7 [.ref 84, .int x, .int (nI a), .int (nI won), .int (nI r)] [] h0 Q := by
    intro k
    induction k with
    | zero =>
      intro r a won h0 hr ha hw F ea ew
      have : r = (N + 1) ^ V := by omega
      subst this
      have M0 := M.fr F (by decide)
      have S0 := S.fr F (by decide) (by simp)
      refine bX12_wins_7 _ _ _ _ _ _ _ ⟨M0.l.o, br_t (by rw [S0.1]; exact nI_le (Nat.le_refl _) (by omega)) (s12_isName M0 (fun q => ⟨_, rfl, br_t rfl (H0 h0 q F)⟩) (fun j hj e => ⟨_, rfl, br_f (by decide +kernel) ?_⟩))⟩
      have HH := H1 j h0 e hj F
      rw [← ea, ← ew j e hj] at HH
      rw [← nI_0, nI_eq (by omega) (by decide), nI_eq (by omega) (by omega), nI_leI (by omega) (by decide)]
      unfold winA at HH
      refine ⟨fun q => by rw [if_pos q] at HH; exact HH, fun q => ⟨fun q2 => by rw [if_neg q, if_pos q2] at HH; exact HH, fun q2 => ⟨fun q3 => by rw [if_neg q, if_neg q2, if_pos (by omega)] at HH; exact HH, fun q3 => by rw [if_neg q, if_neg q2, if_neg (by omega)] at HH; exact HH⟩⟩⟩
    | succ k ih =>
      intro r a won h0 hr ha hw F ea ew
      have M0 := M.fr F (by decide)
      have S0 := S.fr F (by decide) (by simp)
      refine bX12_wins_7 _ _ _ _ _ _ _ ⟨M0.l.o, br_f (by rw [S0.1]; exact nI_ge (by omega) (by omega)) (s12_isCounting M0 S0 (by omega) (fun q => ⟨_, rfl, br_f (by decide +kernel) ⟨M0.l.o, s12_layMarks M0 (by omega) (fun h1 F1 _ K1 => ⟨rfl, ?_⟩)⟩⟩) (fun q => ⟨_, rfl, br_t rfl ?_⟩))⟩
      · have M1 := M0.fr F1 (by decide)
        refine ⟨M1.l.o, s12_chosenNow M1 K1 ⟨_, rfl, ?_⟩⟩
        have em : mlN N V f (r + 1) = mlN N V f r ++ [r] := by rw [mlN_s, if_pos q]
        have el : a + 1 = (mlN N V f (r + 1)).length := by rw [em, ea]; simp
        have hc := chF_le (V := V) (st := st) (wt := wt) (mk := dg (N + 1) V r) hN
        rw [nI_1 a, nI_1 won, nI_1 r, Int32.add_zero]
        refine ⟨fun q2 => ih (r + 1) (a + 1) (won + 1) h1 (by omega) (by omega) (by omega) (F.tr F1) el (fun j e hj => ?_), fun q2 => ih (r + 1) (a + 1) won h1 (by omega) (by omega) (by omega) (F.tr F1) el (fun j e hj => ?_)⟩
        · rw [e] at q2
          have : chF V N st wt (dg (N + 1) V r) = j + 1 := by
            generalize chF V N st wt (dg (N + 1) V r) = y at *
            cases y with
            | zero => exact absurd (by rw [← q2]; exact nI_d0) (nI_pos (n := j) (by omega))
            | succ y => rw [nI_dn, nI_eq (by omega) (by omega)] at q2; omega
          rw [em, List.filter_append, List.length_append, ← ew j e hj]
          simp [cwB, this]
        · rw [e] at q2
          have : ¬ chF V N st wt (dg (N + 1) V r) = j + 1 := fun z => by rw [z, nI_dn] at q2; exact q2 rfl
          rw [em, List.filter_append, List.length_append, ← ew j e hj]
          simp [cwB, this]
      · have em : mlN N V f (r + 1) = mlN N V f r := by rw [mlN_s, if_neg q, List.append_nil]
        rw [nI_1]
        exact ih (r + 1) a won h0 (by omega) (by omega) hw F (by rw [em]; exact ea) (fun j e hj => by rw [em]; exact ew j e hj)
  exact nX12_wins _ _ _ _ (bX12_wins_0 _ _ _ _ (L ((N + 1) ^ V) 0 0 0 h (by omega) (Nat.le_refl _) (Nat.le_refl _) fr.rf (by simp [mlN]) (fun j _ _ => by simp [mlN])))
/-! hands -/
/-- a hand: its voter, mark, when told, when untold -/
abbrev zHd : Type := Nat × Nat × Nat × Option Nat
def hdC (k : Int32) (q : zHd) : Bool := decide (nI q.2.2.1 ≤ k) && (match q.2.2.2 with | none => true | some u => decide (k < nI u))
def hdO (V N : Nat) (HL : List zHd) : Prop := HL.length ≤ 20 ∧ ∀ q, q ∈ HL → q.1 < V ∧ q.2.1 ≤ N ∧ q.2.2.1 ≤ 100000 ∧ ∀ u, q.2.2.2 = some u → u ≤ 100000
def mHL (h : zH) (HL : List zHd) : Prop := gI h 84 54 = nI HL.length ∧ ∀ n q, HL[n]? = some q → aI h 116 n = nI q.1 ∧ aI h 117 n = nI q.2.1 ∧ aI h 118 n = nI q.2.2.1 ∧ aI h 119 n = oI q.2.2.2
theorem mHL.fr {HL : List zHd} (A : mHL h HL) (F : fr X Y h h') (hX : [116, 117, 118, 119].all (fun k => !(X.contains k)) = true) (hY : (84, 54) ∉ Y) : mHL h' HL := by
  simp only [List.all_cons, List.all_nil, and_true, Bool.and_eq_true] at hX
  obtain ⟨c1, c2, c3, c4⟩ := hX
  unfold mHL
  rw [F.gi hY, F.i (ni_of c1), F.i (ni_of c2), F.i (ni_of c3), F.i (ni_of c4)]
  exact A
/-- all that count agree with a row -/
def agB (V : Nat) (k : Int32) (HL : List zHd) (mk : Nat → Nat) : Bool := HL.all (fun q => !hdC k q || decide (mk q.1 = q.2.1))
theorem agB_s {V : Nat} {k : Int32} {q : zHd} {HL : List zHd} {mk : Nat → Nat} : agB V k (q :: HL) mk = ((!hdC k q || decide (mk q.1 = q.2.1)) && agB V k HL mk) := rfl
theorem drop_of {α : Type} {l : List α} {n : Nat} (h : n < l.length) : ∃ q, l[n]? = some q ∧ l.drop n = q :: l.drop (n + 1) := ⟨l[n], List.getElem?_eq_getElem h, List.drop_eq_getElem_cons h⟩
theorem oI_neg {o : Option Nat} (ho : ∀ u, o = some u → u < 2 ^ 31) : oI o < 0 ↔ o = none := by
  cases o with
  | none => simp [oI]
  | some u => simp only [oI, reduceCtorEq, iff_false]; exact nI_pos (ho u rfl)
theorem s12_isLeft {HL : List zHd} {k : Int32} {r : Nat} (M : mT h b N ns V st wt) (S : mS h N V f) (A : mHL h HL) (O : hdO V N HL) (hr : r < (N + 1) ^ V) (H1 : ∀ h', fr [106] [] h h' → (isC N V f r && agB V k HL (dg (N + 1) V r)) = true → mM h' V N (dg (N + 1) V r) → Q (some (.int 1)) h') (H0 : ∀ h', fr [106] [] h h' → (isC N V f r && agB V k HL (dg (N + 1) V r)) = false → Q (some (.int 0)) h') : zC mX12_isLeft [.ref 84, .int (nI r), .int k] h Q := by
  have hV := M.V8
  have hN := M.N3
  have hpw := pw_le hN hV
  refine nX12_isLeft _ _ _ _ _ (bX12_isLeft_0 _ _ _ _ _ ⟨M.l.o, s12_isCounting M S hr (fun q => ⟨_, rfl, br_f (by decide +kernel) ⟨M.l.o, s12_layMarks M (by omega) (fun h1 F1 _ K1 => ⟨rfl, ?_⟩)⟩⟩) (fun q => ⟨_, rfl, br_t rfl (H0 h fr.rf (by simp [q]))⟩)⟩)
  have M1 := M.fr F1 (by decide)
  have A1 := A.fr F1 (by decide) (by simp)
  have L : ∀ (d n : Nat), n + d = HL.length → (agB V k (HL.drop n) (dg (N + 1) V r) = agB V k HL (dg (N + 1) V r)) → zX mX12_isLeft 17 [.ref 84, .float 0, .int k, .int (nI n)] [] h1 Q := by
    intro d
    induction d with
    | zero =>
      intro n hn e
      have : n = HL.length := by omega
      subst this
      refine bX12_isLeft_17 _ _ _ _ _ ⟨M1.l.o, br_t (by rw [A1.1]; exact nI_le (Nat.le_refl _) (by have := O.1; omega)) (H1 h1 F1 ?_ K1)⟩
      rw [List.drop_length] at e
      rw [q, ← e]; rfl
    | succ d ih =>
      intro n hn e
      have n20 := O.1
      obtain ⟨q0, hq, hd⟩ := drop_of (l := HL) (n := n) (by omega)
      obtain ⟨a1, a2, a3, a4⟩ := A1.2 n q0 hq
      obtain ⟨o1, o2, o3, o4⟩ := O.2 q0 (List.mem_of_getElem? hq)
      have hm := K1 q0.1 o1
      rw [hd, agB_s] at e
      have cl : (nI n).toNatClampNeg = n := nI_clamp (by omega)
      have next : (!hdC k q0 || decide (dg (N + 1) V r q0.1 = q0.2.1)) = true → zX mX12_isLeft 17 [.ref 84, .float 0, .int k, .int (nI n + 1)] [] h1 Q := fun z => by
        rw [nI_1]
        exact ih (n + 1) (by omega) (by rw [← e, z, Bool.true_and])
      have at54 : hdC k q0 = true → zX mX12_isLeft 54 [.ref 84, .float 0, .int k, .int (nI n)] [] h1 Q := fun z => by
        refine bX12_isLeft_54 _ _ _ _ _ ⟨M1.l.o, _, M1.l.r38, _, M1.l.r50, M1.l.k50, by rw [M1.l.n50]; exact vp_in_nI (by omega) (by decide), M1.l.k38, ?_⟩
        rw [cl, a1, nI_clamp (by omega)]
        refine ⟨by rw [M1.l.n38]; exact vp_in_nI (by omega) (by decide), _, M1.l.r51, M1.l.k51, by rw [M1.l.n51]; exact vp_in_nI (by omega) (by decide), ?_⟩
        rw [a2, hm.1, nI_eq (by omega) (by omega)]
        refine ⟨fun y => next (by simp [y]), fun y => H0 h1 F1 ?_⟩
        rw [← e]
        simp [z, y]
      refine bX12_isLeft_17 _ _ _ _ _ ⟨M1.l.o, br_f (by rw [A1.1]; exact nI_ge (by omega) (by omega)) ⟨_, M1.l.r52, M1.l.k52, by rw [M1.l.n52]; exact vp_in_nI (by omega) (by decide), ?_⟩⟩
      rw [cl, a3]
      refine ⟨fun y => next ?_, fun y => ⟨_, M1.l.r53, M1.l.k53, by rw [M1.l.n53]; exact vp_in_nI (by omega) (by decide), ?_⟩⟩
      · have : ¬ nI q0.2.2.1 ≤ k := Int32.not_le.mpr y
        simp [hdC, this]
      · have y' : nI q0.2.2.1 ≤ k := Int32.not_lt.mp y
        rw [a4, oI_neg (fun u hu => by have := o4 u hu; omega)]
        refine ⟨fun z => at54 (by simp [hdC, y', z]), fun z => ⟨by rw [M1.l.n53]; exact vp_in_nI (by omega) (by decide), ?_⟩⟩
        cases hu : q0.2.2.2 with
        | none => exact absurd hu z
        | some u =>
          have : (match q0.2.2.2 with | none => true | some u => decide (k < nI u)) = decide (k < nI u) := by rw [hu]
          refine ⟨fun w => next ?_, fun w => at54 ?_⟩
          · have w' : ¬ k < nI u := Int32.not_lt.mpr w
            simp [hdC, this, w']
          · have w' : k < nI u := Int32.not_le.mp w
            simp [hdC, this, w', y']
  exact L HL.length 0 (by omega) rfl
/-- the rows that are left -/
def lfB (N V : Nat) (f : (Nat → Nat) → Nat → Nat) (k : Int32) (HL : List zHd) (r : Nat) : Bool := isC N V f r && agB V k HL (dg (N + 1) V r)
theorem s12_left {HL : List zHd} {k : Int32} (M : mT h b N ns V st wt) (S : mS h N V f) (A : mHL h HL) (O : hdO V N HL) (H : ∀ h', fr [106] [] h h' → Q (some (.int (nI ((List.range' 0 ((N + 1) ^ V)).filter (lfB N V f k HL)).length))) h') : zC mX12_left [.ref 84, .int k] h Q := by
  have hV := M.V8
  have hN := M.N3
  have hpw := pw_le hN hV
  have L : ∀ (d r a : Nat) (h0 : zH), r + d = (N + 1) ^ V → a + ((List.range' r d).filter (lfB N V f k HL)).length = ((List.range' 0 ((N + 1) ^ V)).filter (lfB N V f k HL)).length → fr [106] [] h h0 → zX mX12_left 4 [.ref 84, .int k, .int (nI a), .int (nI r)] [] h0 Q := by
    intro d
    induction d with
    | zero =>
      intro r a h0 hr e F
      have : r = (N + 1) ^ V := by omega
      subst this
      have M0 := M.fr F (by decide)
      have S0 := S.fr F (by decide) (by simp)
      have HH := H h0 F
      rw [← e] at HH
      exact bX12_left_4 _ _ _ _ _ _ ⟨M0.l.o, br_t (by rw [S0.1]; exact nI_le (Nat.le_refl _) (by omega)) (by simpa using HH)⟩
    | succ d ih =>
      intro r a h0 hr e F
      have M0 := M.fr F (by decide)
      have S0 := S.fr F (by decide) (by simp)
      rw [flt_s] at e
      refine bX12_left_4 _ _ _ _ _ _ ⟨M0.l.o, br_f (by rw [S0.1]; exact nI_ge (by omega) (by omega)) (s12_isLeft (k := k) M0 S0 (A.fr F (by decide) (by simp)) O (by omega) (fun h1 F1 q _ => ⟨_, rfl, br_f (by decide +kernel) ?_⟩) (fun h1 F1 q => ⟨_, rfl, br_t rfl ?_⟩))⟩
      · rw [show lfB N V f k HL r = true from q, if_pos rfl, List.length_cons] at e
        rw [nI_1, nI_lit 1, nI_add]
        exact ih (r + 1) (a + 1) h1 (by omega) (by omega) (F.tr F1)
      · rw [show lfB N V f k HL r = false from q] at e
        rw [nI_1, nI_lit 0, nI_add, Nat.add_zero]
        exact ih (r + 1) a h1 (by omega) (by simpa using e) (F.tr F1)
  exact nX12_left _ _ _ _ (bX12_left_0 _ _ _ _ (L ((N + 1) ^ V) 0 0 h (by omega) (by omega) fr.rf))
/-- one mark in all -/
def suF : List Nat → Option Nat → Int32
  | [], its => oI its
  | m :: l, its => if (match its with | none => true | some x => decide (x = m)) then suF l (some m) else -2
theorem s12_sure {HL : List zHd} {k : Int32} {x : Int32} (M : mT h b N ns V st wt) (S : mS h N V f) (A : mHL h HL) (O : hdO V N HL) (H1 : ∀ j h', x = nI j → j < V → fr [106] [] h h' → Q (some (.int (suF (((List.range' 0 ((N + 1) ^ V)).filter (lfB N V f k HL)).map (fun r => dg (N + 1) V r j)) none))) h') (H0 : (x < 0 ∨ nI V ≤ x) → Q (some (.int (-1))) h) : zC mX12_sure [.ref 84, .int x, .int k] h Q := by
  have hV := M.V8
  have hN := M.N3
  have hpw := pw_le hN hV
  refine nX12_sure _ _ _ _ _ (bX12_sure_0 _ _ _ _ _ ⟨M.l.o, s12_isVoter M (fun q => ⟨_, rfl, br_t rfl (H0 q)⟩) (fun j hj e => ⟨_, rfl, br_f (by decide +kernel) ?_⟩)⟩)
  subst e
  have L : ∀ (d r : Nat) (its : Option Nat) (h0 : zH), r + d = (N + 1) ^ V → (∀ u, its = some u → u ≤ 3) → suF (((List.range' r d).filter (lfB N V f k HL)).map (fun r => dg (N + 1) V r j)) its = suF (((List.range' 0 ((N + 1) ^ V)).filter (lfB N V f k HL)).map (fun r => dg (N + 1) V r j)) none → fr [106] [] h h0 → zX mX12_sure 15 [.ref 84, .int (nI j), .int k, .int (oI its), .int (nI r)] [] h0 Q := by
    intro d
    induction d with
    | zero =>
      intro r its h0 hr hi e F
      have : r = (N + 1) ^ V := by omega
      subst this
      have M0 := M.fr F (by decide)
      have S0 := S.fr F (by decide) (by simp)
      have HH := H1 j h0 rfl hj F
      rw [← e] at HH
      exact bX12_sure_15 _ _ _ _ _ _ _ ⟨M0.l.o, br_t (by rw [S0.1]; exact nI_le (Nat.le_refl _) (by omega)) HH⟩
    | succ d ih =>
      intro r its h0 hr hi e F
      have M0 := M.fr F (by decide)
      have S0 := S.fr F (by decide) (by simp)
      rw [flt_s] at e
      refine bX12_sure_15 _ _ _ _ _ _ _ ⟨M0.l.o, br_f (by rw [S0.1]; exact nI_ge (by omega) (by omega)) (s12_isLeft (k := k) M0 S0 (A.fr F (by decide) (by simp)) O (by omega) (fun h1 F1 q K1 => ⟨_, rfl, br_f (by decide +kernel) ?_⟩) (fun h1 F1 q => ⟨_, rfl, br_t rfl ?_⟩))⟩
      · rw [show lfB N V f k HL r = true from q, if_pos rfl, List.map_cons] at e
        have M1 := M0.fr F1 (by decide)
        obtain ⟨k1, k2⟩ := K1 j hj
        have cl : (nI j).toNatClampNeg = j := nI_clamp (by omega)
        have vj : vp_in (nI j) (aN h1 106) := by rw [M1.l.n38]; exact vp_in_nI (by omega) (by decide)
        rw [oI_neg (fun u hu => by have := hi u hu; omega), nI_1]
        refine ⟨fun z => ⟨M1.l.o, _, M1.l.r38, M1.l.k38, vj, ?_⟩, fun z => ⟨M1.l.o, _, M1.l.r38, M1.l.k38, vj, ?_⟩⟩
        · rw [cl, k1]
          subst z
          refine ih (r + 1) (some _) h1 (by omega) (fun u hu => by cases hu; omega) ?_ (F.tr F1)
          rw [← e]; simp [suF]
        · rw [cl, k1]
          cases its with
          | none => exact absurd rfl z
          | some u =>
            have hu := hi u rfl
            show (nI u = nI _ → _) ∧ (¬ nI u = nI _ → _)
            rw [nI_eq (by omega) (by omega)]
            refine ⟨fun w => ⟨vj, ih (r + 1) (some _) h1 (by omega) (fun u hu => by cases hu; omega) ?_ (F.tr F1)⟩, fun w => ?_⟩
            · rw [← e]; simp [suF, w]
            · have HH := H1 j h1 rfl hj (F.tr F1)
              rw [← e] at HH
              simpa [suF, w] using HH
      · rw [show lfB N V f k HL r = false from q] at e
        rw [nI_1]
        exact ih (r + 1) its h1 (by omega) hi (by simpa using e) (F.tr F1)
  exact L ((N + 1) ^ V) 0 none h (by omega) (fun _ z => by cases z) rfl fr.rf
/-! in earnest -/
def mH (h : zH) (V N : Nat) (mm : Nat → Nat) : Prop := ∀ v, v < V → aI h 111 v = nI (mm v) ∧ mm v ≤ N
theorem mH.fr (A : mH h V N mm) (F : fr X Y h h') (hX : 111 ∉ X) : mH h' V N mm := fun v hv => by rw [F.i hX]; exact A v hv
/-- f says marks that are -/
def fN (V N : Nat) (f : (Nat → Nat) → Nat → Nat) : Prop := ∀ mk, (∀ v, v < V → mk v ≤ N) → ∀ v, v < V → f mk v ≤ N
theorem sdF_congr {f g : Nat → Nat} : ∀ {j : Nat}, (∀ v, v < j → f v = g v) → sdF f j = sdF g j
  | 0, _ => rfl
  | j + 1, h => by rw [sdF, sdF, sdF_congr (fun v hv => h v (by omega)), h j (Nat.lt_succ_self j)]
theorem s12_layEarnest (M : mT h b N ns V st wt) (A : mH h V N mm) (H : ∀ h', fr [106] [] h h' → mM h' V N mm → Q none h') : zC mX12_layEarnest [.ref 84] h Q := by
  have hV := M.V8
  have L : ∀ (d j : Nat) (h0 : zH), j + d = 8 → fr [106] [] h h0 → (∀ v, v < j → aI h0 106 v = aI h 111 v) → zX mX12_layEarnest 2 [.ref 84, .int (nI j)] [] h0 Q := by
    intro d
    induction d with
    | zero =>
      intro j h0 hj F e
      have : j = 8 := by omega
      subst this
      exact bX12_layEarnest_2 _ _ _ _ (br_t (by decide +kernel) (H h0 F (fun v hv => by rw [e v (by omega)]; exact A v hv)))
    | succ d ih =>
      intro j h0 hj F e
      have M0 := M.fr F (by decide)
      refine bX12_layEarnest_2 _ _ _ _ (br_f (nI_ge (b := 8) (by omega) (by decide)) ⟨M0.l.o, _, M0.l.r38, _, M0.l.r45, M0.l.k45, by rw [M0.l.n45]; exact vp_in_nI (by omega) (by decide), M0.l.k38, by rw [M0.l.n38]; exact vp_in_nI (by omega) (by decide), fun h9 e9 => ?_⟩)
      rw [nI_clamp (by omega), F.i (by decide : (111 : Nat) ∉ [106])] at e9
      rw [nI_1]
      refine ih (j + 1) h9 (by omega) (F.tr (by rw [e9]; exact fr_pI (by simp))) (fun v hv => ?_)
      by_cases z : v = j
      · rw [e9, z]; exact aI_pI_s ⟨_, M0.l.k38⟩
      · rw [e9, aI_pI_n (Or.inr z)]; exact e v (by omega)
  exact nX12_layEarnest _ _ _ (bX12_layEarnest_0 _ _ _ (L 8 0 h rfl fr.rf (fun v hv => absurd hv (Nat.not_lt_zero _))))
theorem s12_saidNow (M : mT h b N ns V st wt) (S : mS h N V f) (hf : fC V f) (A : mH h V N mm) (H : ∀ h', fr [106] [] h h' → Q (some (.int (nI (sdF (f mm) V)))) h') : zC mX12_saidNow [.ref 84] h Q := by
  have hV := M.V8
  have hN := M.N3
  have hpw := pw_le hN hV
  have hm : ∀ v, v < V → mm v < N + 1 := fun v hv => Nat.lt_succ_of_le (A v hv).2
  have rlt : en (N + 1) V mm < (N + 1) ^ V := en_lt hm
  refine nX12_saidNow _ _ _ (bX12_saidNow_0 _ _ _ ⟨M.l.o, s12_layEarnest M A (fun h1 F1 K1 => ⟨rfl, ?_⟩)⟩)
  have M1 := M.fr F1 (by decide)
  have S1 := S.fr F1 (by decide) (by simp)
  refine ⟨M1.l.o, _, M1.l.r41, s12_rowNow M1 K1 ⟨_, rfl, M1.l.k41, by rw [M1.l.n41]; exact vp_in_nI (by omega) (by decide), ?_⟩⟩
  rw [nI_clamp (by omega), (S1.2 _ rlt).1, sdF_congr (fun v hv => hf _ _ (dg_en hm) v hv)]
  exact H h1 F1
theorem s12_saidBy {s v : Nat} (hs : s < 2 ^ 31) (hv : v < 8) (H : Q (some (.int (nI (s / 2 ^ (2 * v) % 4)))) h) : zC mX12_saidBy [.int (nI s), .int (nI v)] h Q := by
  refine nX12_saidBy _ _ _ _ (bX12_saidBy_0 _ _ _ _ ?_)
  rw [nI_lit 2, nI_mul, nI_shr hs (by omega), nI_mod4]
  exact H
theorem sd31 {f : Nat → Nat} (hV : V ≤ 8) (hN : N ≤ 3) (hf : ∀ v, v < V → f v ≤ N) : sdF f V < 65536 := Nat.lt_of_lt_of_le (sdF_lt hN hf) (Nat.le_trans (Nat.pow_le_pow_right (by decide) (show 2 * V ≤ 16 by omega)) (by decide))
theorem s12_says (M : mT h b N ns V st wt) (S : mS h N V f) (hf : fC V f) (hn : fN V N f) (A : mH h V N mm) {x : Int32} (H1 : ∀ j h', x = nI j → j < V → fr [106] [] h h' → Q (some (.int (nI (f mm j)))) h') (H0 : (x < 0 ∨ nI V ≤ x) → Q (some (.int (-1))) h) : zC mX12_says [.ref 84, .int x] h Q := by
  have hV := M.V8
  have hN := M.N3
  have hfm := hn mm (fun v hv => (A v hv).2)
  refine nX12_says _ _ _ _ (bX12_says_0 _ _ _ _ ⟨M.l.o, s12_isVoter M (fun q => ⟨_, rfl, br_t rfl (H0 q)⟩) (fun j hj e => ⟨_, rfl, br_f (by decide +kernel) ⟨M.l.o, s12_saidNow M S hf A (fun h1 F1 => ⟨_, rfl, ?_⟩)⟩⟩)⟩)
  subst e
  refine s12_saidBy (by have := sd31 hV hN hfm; omega) (by omega) ⟨_, rfl, ?_⟩
  rw [sdF_dig hN hfm hj]
  exact H1 j h1 rfl hj F1
theorem s12_mark (M : mT h b N ns V st wt) (A : mH h V N mm) {x y : Int32} (H1 : ∀ j m h', x = nI j → j < V → y = nI m → m ≤ N → fr [111] [] h h' → mH h' V N (ud mm j m) → Q (some (.int 1)) h') (H0 : ((x < 0 ∨ nI V ≤ x) ∨ (y < 0 ∨ nI N < y)) → Q (some (.int 0)) h) : zC mX12_mark [.ref 84, .int x, .int y] h Q := by
  have hV := M.V8
  have hN := M.N3
  refine nX12_mark _ _ _ _ _ (bX12_mark_0 _ _ _ _ _ ⟨M.l.o, s12_isVoter M (fun q => ⟨_, rfl, br_t rfl (H0 (Or.inl q))⟩) (fun j hj e => ⟨_, rfl, br_f (by decide +kernel) ⟨M.l.o, s12_nameMany M ⟨_, rfl, s12_isIn (fun q => ⟨_, rfl, br_t rfl (H0 (Or.inr q))⟩) (fun q1 q2 => ⟨_, rfl, br_f (by decide +kernel) ?_⟩)⟩⟩⟩)⟩)
  subst e
  obtain ⟨m, m1, rfl⟩ := nI_of q1
  rw [nI_ltI (by omega) m1] at q2
  refine ⟨M.l.o, _, M.l.r45, M.l.k45, by rw [M.l.n45]; exact vp_in_nI (by omega) (by decide), fun h1 e1 => ?_⟩
  rw [nI_clamp (by omega)] at e1
  refine H1 j m h1 rfl hj rfl (by omega) (by rw [e1]; exact fr_pI (by simp)) (fun v hv => ?_)
  by_cases z : v = j
  · subst z; rw [ud_s, e1]; exact ⟨aI_pI_s ⟨_, M.l.k45⟩, by omega⟩
  · rw [ud_n z, e1, aI_pI_n (Or.inr z)]; exact A v hv
theorem s12_open (M : mT h b N ns V st wt) (S : mS h N V f) (hf : fC V f) (hn : fN V N f) (A : mH h V N mm) {x : Int32} (H1 : ∀ j h', x = nI j → j < V → fr [106, 111] [] h h' → mH h' V N (ud mm j (f mm j)) → Q (some (.int (nI (f mm j)))) h') (H0 : (x < 0 ∨ nI V ≤ x) → Q (some (.int (-1))) h) : zC mX12_open [.ref 84, .int x] h Q := by
  have hV := M.V8
  have hN := M.N3
  have hfm := hn mm (fun v hv => (A v hv).2)
  refine nX12_open _ _ _ _ (bX12_open_0 _ _ _ _ ⟨M.l.o, s12_isVoter M (fun q => ⟨_, rfl, br_t rfl (H0 q)⟩) (fun j hj e => ⟨_, rfl, br_f (by decide +kernel) ⟨M.l.o, _, M.l.r45, s12_saidNow M S hf A (fun h1 F1 => ⟨_, rfl, ?_⟩)⟩⟩)⟩)
  subst e
  refine s12_saidBy (by have := sd31 hV hN hfm; omega) (by omega) ⟨_, rfl, ?_⟩
  rw [sdF_dig hN hfm hj]
  have M1 := M.fr F1 (by decide)
  have A1 := A.fr F1 (by simp)
  refine ⟨M1.l.k45, by rw [M1.l.n45]; exact vp_in_nI (by omega) (by decide), fun h2 e2 => ?_⟩
  rw [nI_clamp (by omega)] at e2
  have F2 : fr [106, 111] [] h1 h2 := by rw [e2]; exact fr_pI (by simp)
  have M2 := M1.fr F2 (by decide)
  refine ⟨M2.l.o, _, M2.l.r45, M2.l.k45, by rw [M2.l.n45]; exact vp_in_nI (by omega) (by decide), ?_⟩
  rw [nI_clamp (by omega), e2, aI_pI_s ⟨_, M1.l.k45⟩, ← e2]
  refine H1 j h2 rfl hj ((F1.mo (by simp) (by simp)).tr F2) (fun v hv => ?_)
  by_cases z : v = j
  · subst z; rw [ud_s, e2]; exact ⟨aI_pI_s ⟨_, M1.l.k45⟩, hfm v hv⟩
  · rw [ud_n z, e2, aI_pI_n (Or.inr z)]; exact A1 v hv
theorem s12_has (M : mT h b N ns V st wt) (A : mH h V N mm) {x : Int32} (H1 : ∀ j, x = nI j → j < V → Q (some (.int (nI (mm j)))) h) (H0 : (x < 0 ∨ nI V ≤ x) → Q (some (.int (-1))) h) : zC mX12_has [.ref 84, .int x] h Q := by
  have hV := M.V8
  refine nX12_has _ _ _ _ (bX12_has_0 _ _ _ _ ⟨M.l.o, s12_isVoter M (fun q => ⟨_, rfl, br_t rfl (H0 q)⟩) (fun j hj e => ⟨_, rfl, br_f (by decide +kernel) ?_⟩)⟩)
  subst e
  refine ⟨M.l.o, _, M.l.r45, M.l.k45, by rw [M.l.n45]; exact vp_in_nI (by omega) (by decide), ?_⟩
  rw [nI_clamp (by omega), (A j hj).1]
  exact H1 j rfl hj
/-- the first for whom p -/
def fsN (p : Nat → Bool) : Nat → Nat → Option Nat
  | 0, _ => none
  | d + 1, v => if p v then some v else fsN p d (v + 1)
theorem s12_judge (M : mT h b N ns V st wt) (S : mS h N V f) (hf : fC V f) (hn : fN V N f) (A : mH h V N mm) (H : ∀ h', fr [106] [] h h' → Q (some (.int (oI (fsN (fun v => decide (f mm v ≠ mm v)) V 0)))) h') : zC mX12_judge [.ref 84] h Q := by
  have hV := M.V8
  have hN := M.N3
  have hfm := hn mm (fun v hv => (A v hv).2)
  refine nX12_judge _ _ _ (bX12_judge_0 _ _ _ ⟨M.l.o, s12_saidNow M S hf A (fun h1 F1 => ⟨_, rfl, ?_⟩)⟩)
  have M1 := M.fr F1 (by decide)
  have A1 := A.fr F1 (by simp)
  have HH := H h1 F1
  have L : ∀ (d v : Nat), v + d = V → Q (some (.int (oI (fsN (fun v => decide (f mm v ≠ mm v)) d v)))) h1 → zX mX12_judge 7 [.ref 84, .int (nI (sdF (f mm) V)), .int (nI v)] [] h1 Q := by
    intro d
    induction d with
    | zero =>
      intro v hv H2
      have : v = V := by omega
      subst this
      exact bX12_judge_7 _ _ _ _ _ ⟨M1.l.o, s12_voterMany M1 ⟨_, rfl, br_t (nI_le (Nat.le_refl _) (by omega)) H2⟩⟩
    | succ d ih =>
      intro v hv H2
      refine bX12_judge_7 _ _ _ _ _ ⟨M1.l.o, s12_voterMany M1 ⟨_, rfl, br_f (nI_ge (by omega) (by omega)) (s12_saidBy (by have := sd31 hV hN hfm; omega) (by omega) ⟨_, rfl, M1.l.o, _, M1.l.r45, M1.l.k45, by rw [M1.l.n45]; exact vp_in_nI (by omega) (by decide), ?_⟩)⟩⟩
      have a := A1 v (by omega)
      have b := hfm v (by omega)
      rw [sdF_dig hN hfm (by omega), nI_clamp (by omega), a.1, nI_eq (by omega) (by omega), nI_1]
      rw [fsN] at H2
      exact ⟨fun q => ih (v + 1) (by omega) (by simpa [q] using H2), fun q => by simpa [q, oI] using H2⟩
  exact L V 0 (by omega) HH
end

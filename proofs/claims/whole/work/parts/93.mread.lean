/-! ===== the reference's reader: what it holds; units counted, signs piled ===== -/
section
variable {h h' : zH} {Q : Option Value → zH → Prop} {n i p m u w own lim rb : Nat} {bs : Nat → Nat} {c : Nat → zOp} {K : zKs} {E : List Nat} {I : List (Nat × Bool)} {e : Nat × Nat}
theorem mLo.l (L : mLo h n bs e) : mLay h := by
  obtain ⟨⟨j, P⟩, -⟩ := L
  exact P.1
theorem mLo.ng (L : mLo h n bs e) : ¬ gI h 84 4 = 0 := L.2.ne
theorem mLo.fr {X : List Nat} {Y : List (Nat × Nat)} (L : mLo h n bs e) (F : fr X Y h h') (hX : 86 ∉ X) (hY : mRefs.all (fun f => !(Y.contains (84, f))) = true) (hY2 : [3, 4, 5, 6, 7, 8, 9, 10].all (fun f => !(Y.contains (84, f))) = true) : mLo h' n bs e := by
  simp only [List.all_cons, List.all_nil, and_true, Bool.and_eq_true] at hY2
  obtain ⟨y3, y4, y5, y6, y7, y8, y9, y10⟩ := hY2
  obtain ⟨⟨j, P⟩, E⟩ := L
  exact ⟨⟨j, P.fr F hX hY (ni_of y3) (by simp only [List.all_cons, List.all_nil, and_true, Bool.and_eq_true]; exact ⟨y6, y7, y8, y9, y10⟩)⟩, E.fr F (ni_of y4) (ni_of y5)⟩
/-- what a wording's reading may change: rows, fields; its own place of the many -/
def mFg (X : List Nat) (Y : List (Nat × Nat)) (p : Nat) (h h' : zH) : Prop := fr X Y h h' ∧ (∀ q, q ≠ p → aI h' 97 q = aI h 97 q ∧ aI h' 98 q = aI h 98 q) ∧ ∀ k, (k < 640 * p ∨ 640 * p + 640 ≤ k) → aI h' 99 k = aI h 99 k ∧ aI h' 100 k = aI h 100 k ∧ aI h' 101 k = aI h 101 k
theorem mFg.rf {X : List Nat} {Y : List (Nat × Nat)} : mFg X Y p h h := ⟨fr.rf, fun _ _ => ⟨rfl, rfl⟩, fun _ _ => ⟨rfl, rfl, rfl⟩⟩
theorem mFg.tr {X : List Nat} {Y : List (Nat × Nat)} {h1 h2 : zH} (a : mFg X Y p h h1) (b : mFg X Y p h1 h2) : mFg X Y p h h2 := ⟨a.1.tr b.1, fun q hq => ⟨(b.2.1 q hq).1.trans (a.2.1 q hq).1, (b.2.1 q hq).2.trans (a.2.1 q hq).2⟩, fun k hk => ⟨(b.2.2 k hk).1.trans (a.2.2 k hk).1, (b.2.2 k hk).2.1.trans (a.2.2 k hk).2.1, (b.2.2 k hk).2.2.trans (a.2.2 k hk).2.2⟩⟩
theorem mFg.mo {X X' : List Nat} {Y Y' : List (Nat × Nat)} (a : mFg X Y p h h') (hX : X.all (fun k => X'.contains k) = true) (hY : Y.all (fun k => Y'.contains k) = true) : mFg X' Y' p h h' := ⟨a.1.mo (fun k hk => List.contains_iff_mem.mp (List.all_eq_true.mp hX k hk)) (fun q hq => List.contains_iff_mem.mp (List.all_eq_true.mp hY q hq)), a.2⟩
theorem mFg.of {X X' : List Nat} {Y Y' : List (Nat × Nat)} (F : fr X Y h h') (hX : X.all (fun k => X'.contains k) = true) (hY : Y.all (fun k => Y'.contains k) = true) (hn : [97, 98, 99, 100, 101].all (fun k => !(X.contains k)) = true) : mFg X' Y' p h h' := by
  simp only [List.all_cons, List.all_nil, and_true, Bool.and_eq_true] at hn
  obtain ⟨x1, x2, x3, x4, x5⟩ := hn
  refine ⟨F.mo (fun k hk => List.contains_iff_mem.mp (List.all_eq_true.mp hX k hk)) (fun q hq => List.contains_iff_mem.mp (List.all_eq_true.mp hY q hq)), fun q _ => ⟨?_, ?_⟩, fun k _ => ⟨?_, ?_, ?_⟩⟩
  · rw [F.i (ni_of x1)]
  · rw [F.i (ni_of x2)]
  · rw [F.i (ni_of x3)]
  · rw [F.i (ni_of x4)]
  · rw [F.i (ni_of x5)]
abbrev XUs : List Nat := [97, 98, 99, 100, 101, 102, 103]
abbrev YUs : List (Nat × Nat) := [(84, 4), (84, 5), (84, 6), (84, 7), (84, 8), (84, 9), (84, 10), (84, 35), (84, 36)]
abbrev XEs : List Nat := [97, 98, 99, 100, 101, 102, 103, 104, 105]
abbrev YEs : List (Nat × Nat) := [(84, 4), (84, 5), (84, 6), (84, 7), (84, 8), (84, 9), (84, 10), (84, 35), (84, 36), (84, 37)]
abbrev mFu (p : Nat) (h h' : zH) : Prop := mFg XUs YUs p h h'
abbrev mFw (p : Nat) (h h' : zH) : Prop := mFg XEs YEs p h h'
theorem mFg.wd (a : mFg XUs YUs p h h') : mFg XEs YEs p h h' := a.mo (by decide) (by decide)
/-- what is written so far -/
def mWd (h : zH) (p own lim m : Nat) (c : Nat → zOp) (u w : Nat) : Prop := gI h 84 32 = nI p ∧ gI h 84 33 = nI own ∧ gI h 84 34 = nI lim ∧ aI h 98 p = nI u ∧ gI h 84 35 = nI w ∧ aI h 97 p = nI m ∧ ∀ j, j < m → opM (aI h 99 (640 * p + j)) (aI h 100 (640 * p + j)) (aI h 101 (640 * p + j)) (c j)
theorem mWd.fr {X : List Nat} {Y : List (Nat × Nat)} (W : mWd h p own lim m c u w) (F : fr X Y h h') (hX : [97, 98, 99, 100, 101].all (fun k => !(X.contains k)) = true) (hY : [32, 33, 34, 35].all (fun f => !(Y.contains (84, f))) = true) : mWd h' p own lim m c u w := by
  simp only [List.all_cons, List.all_nil, and_true, Bool.and_eq_true] at hX hY
  obtain ⟨x1, x2, x3, x4, x5⟩ := hX
  obtain ⟨y1, y2, y3, y4⟩ := hY
  unfold mWd
  rw [F.gi (ni_of y1), F.gi (ni_of y2), F.gi (ni_of y3), F.gi (ni_of y4), F.i (ni_of x1), F.i (ni_of x2), F.i (ni_of x3), F.i (ni_of x4), F.i (ni_of x5)]
  exact W
/-- all is well, at token i -/
def mRd (h : zH) (n : Nat) (bs : Nat → Nat) (i p own lim m : Nat) (c : Nat → zOp) (u w : Nat) : Prop := mPs h n bs i ∧ mGd h ∧ mWd h p own lim m c u w
theorem mRd.fr {X : List Nat} {Y : List (Nat × Nat)} (R : mRd h n bs i p own lim m c u w) (F : fr X Y h h') (hX : [86, 97, 98, 99, 100, 101].all (fun k => !(X.contains k)) = true) (hY : mRefs.all (fun f => !(Y.contains (84, f))) = true) (hY2 : [3, 4, 5, 6, 7, 8, 9, 10, 32, 33, 34, 35].all (fun f => !(Y.contains (84, f))) = true) : mRd h' n bs i p own lim m c u w := by
  simp only [List.all_cons, List.all_nil, and_true, Bool.and_eq_true] at hX hY2
  obtain ⟨x0, x1, x2, x3, x4, x5⟩ := hX
  obtain ⟨y3, y4, y5, y6, y7, y8, y9, y10, y32, y33, y34, y35⟩ := hY2
  refine ⟨R.1.fr F (ni_of x0) hY (ni_of y3) ?_, R.2.1.fr F (ni_of y4) (ni_of y5), R.2.2.fr F ?_ ?_⟩
  · simp only [List.all_cons, List.all_nil, and_true, Bool.and_eq_true]; exact ⟨y6, y7, y8, y9, y10⟩
  · simp only [List.all_cons, List.all_nil, and_true, Bool.and_eq_true]; exact ⟨x1, x2, x3, x4, x5⟩
  · simp only [List.all_cons, List.all_nil, and_true, Bool.and_eq_true]; exact ⟨y32, y33, y34, y35⟩
/-- all is well at another token -/
theorem mRd_to {X : List Nat} {Y : List (Nat × Nat)} {i' : Nat} (R : mRd h n bs i p own lim m c u w) (F : fr X Y h h') (P : mPs h' n bs i') (hg : mGd h') (hX : [97, 98, 99, 100, 101].all (fun k => !(X.contains k)) = true) (hY : [32, 33, 34, 35].all (fun f => !(Y.contains (84, f))) = true) : mRd h' n bs i' p own lim m c u w := ⟨P, hg, R.2.2.fr F hX hY⟩
/-- a step put -/
theorem e12_emit {x a b : Int32} {o : zOp} (R : mRd h n bs i p own lim m c u w) (hp : p < 48) (hm : m < 640) (ho : opM x a b o) (H : ∀ h', mFu p h h' → fr [97, 99, 100, 101] [] h h' → mRd h' n bs i p own lim (m + 1) (pE c m o) u w → Q none h') : zC mX12_emit [.ref 84, .int x, .int a, .int b] h Q := by
  obtain ⟨P, hg, w1, w2, w3, w4, w5, w6, w7⟩ := R
  refine s12_emit P.1 w1 hp w6 hm (fun h' F a97 a99 a100 a101 ne nq => ?_)
  have Fw : mFu p h h' := ⟨F.mo (by simp) (by simp), fun q hq => ⟨nq q hq, by rw [F.i (by simp)]⟩, fun k hk => ne k (by omega)⟩
  refine H h' Fw F ⟨P.fr F (by simp) (by decide) (by simp) (by decide), hg.fr F (by simp), by rw [F.gi (by simp)]; exact w1, by rw [F.gi (by simp)]; exact w2, by rw [F.gi (by simp)]; exact w3, by rw [F.i (by simp)]; exact w4, by rw [F.gi (by simp)]; exact w5, a97, fun j hj => ?_⟩
  unfold pE
  by_cases z : j = m
  · rw [if_pos z, z, a99, a100, a101]; exact ho
  · rw [if_neg z, (ne _ (by omega)).1, (ne _ (by omega)).2.1, (ne _ (by omega)).2.2]; exact w7 j (by omega)
theorem e12_emit0 {x a b : Int32} (L : mLo h n bs e) (h32 : gI h 84 32 = nI p) (hp : p < 48) (h97 : aI h 97 p = nI m) (hm : m < 640) (H : ∀ h', mFu p h h' → mLo h' n bs e → Q none h') : zC mX12_emit [.ref 84, .int x, .int a, .int b] h Q :=
  s12_emit L.l h32 hp h97 hm (fun h' F a97 a99 a100 a101 ne nq => H h' ⟨F.mo (by simp) (by simp), fun q hq => ⟨nq q hq, by rw [F.i (by simp)]⟩, fun k hk => ne k (by omega)⟩ (L.fr F (by simp) (by decide) (by decide)))
/-- a unit counted -/
theorem e12_counts (R : mRd h n bs i p own lim m c u w) (hp : p < 48) (hu : u ≤ lim) (hl : lim ≤ 80) (H1 : u ≠ lim → ∀ h', mFu p h h' → fr [98] [] h h' → mRd h' n bs i p own lim m c (u + 1) w → Q (some (.int 1)) h') (H2 : u = lim → ∀ h', mFu p h h' → mLo h' n bs (mp n bs i) → Q (some (.int 0)) h') : zC mX12_counts [.ref 84] h Q := by
  obtain ⟨P, hg, w1, w2, w3, w4, w5, w6, w7⟩ := R
  have M := P.1
  have cp : (nI p).toNatClampNeg = p := nI_clamp (by omega)
  refine nX12_counts _ _ _ (bX12_counts_0 _ _ _ ⟨M.o, _, M.r22, M.k22, ?_⟩)
  rw [w1, w3, cp, w4, M.n22]
  refine ⟨vp_in_nI hp (by decide), fun q => s12_misplaced P hg (fun h' F E => ⟨rfl, ?_⟩), fun q => ?_⟩
  · have M' : mLay h' := M.fr F (by decide)
    exact bX12_counts_20 _ _ _ ⟨M'.o, s12_isGood M' (fun g => absurd g E.ne) (fun _ => ⟨_, rfl, br_t rfl (H2 ((nI_eq (by omega) (by omega)).mp q) h' (mFg.of F (by decide) (by decide) (by decide)) ⟨⟨i, P.fr F (by simp) (by decide) (by simp) (by decide)⟩, E⟩)⟩)⟩
  · refine bX12_counts_20 _ _ _ ⟨M.o, s12_isGood M (fun _ => ⟨_, rfl, br_f (by decide +kernel) ⟨M.o, _, M.r22, M.k22, ?_⟩⟩) (fun g => absurd hg g)⟩
    rw [w1, cp, w4, M.n22, nI_1]
    refine ⟨vp_in_nI hp (by decide), vp_in_nI hp (by decide), fun h10 e10 => ?_⟩
    have F : fr [98] [] h h10 := by rw [e10]; exact fr_pI (by simp)
    have ne : ∀ q, q ≠ p → aI h10 98 q = aI h 98 q := fun q hq => by rw [e10, aI_pI_n (Or.inr hq)]
    refine H1 (fun z => q (by rw [z])) h10 ⟨F.mo (by simp) (by simp), fun q hq => ⟨by rw [F.i (by simp)], ne q hq⟩, fun k _ => ⟨by rw [F.i (by simp)], by rw [F.i (by simp)], by rw [F.i (by simp)]⟩⟩ F ⟨P.fr F (by simp) (by decide) (by simp) (by decide), hg.fr F (by simp), by rw [F.gi (by simp)]; exact w1, by rw [F.gi (by simp)]; exact w2, by rw [F.gi (by simp)]; exact w3, by rw [e10]; exact aI_pI_s ⟨_, M.k22⟩, by rw [F.gi (by simp)]; exact w5, by rw [F.i (by simp)]; exact w6, fun j hj => ?_⟩
    rw [F.i (by simp), F.i (by simp), F.i (by simp)]
    exact w7 j hj
/-- the pile: what a sign weighs there, its byte -/
def eWt (k : Nat) : Nat := if k = 3 then 6 else bnd k
def eSg (k : Nat) : Nat := [0, 0, 0, 126, 124, 38, 126, 60, 62, 61, 43, 45].getD k 0
def plR (f g : Nat → Int32) : List Nat → Prop
  | [] => True
  | e :: E => (f E.length = nI (eWt e) ∧ g E.length = nI (eSg e)) ∧ plR f g E
theorem plR_c {f g f' g' : Nat → Int32} : ∀ {E : List Nat}, plR f g E → (∀ j, j < E.length → f' j = f j ∧ g' j = g j) → plR f' g' E
  | [], _, _ => trivial
  | e :: E, a, h => ⟨by rw [(h E.length (Nat.lt_succ_self _)).1, (h E.length (Nat.lt_succ_self _)).2]; exact a.1, plR_c a.2 (fun j hj => h j (Nat.lt_succ_of_lt hj))⟩
def mPl (h : zH) (E : List Nat) : Prop := gI h 84 36 = nI (E.length + 1) ∧ aI h 102 0 = nI 7 ∧ plR (fun j => aI h 102 (j + 1)) (fun j => aI h 103 (j + 1)) E
theorem mPl.fr {X : List Nat} {Y : List (Nat × Nat)} (L : mPl h E) (F : fr X Y h h') (h2 : 102 ∉ X) (h3 : 103 ∉ X) (hY : (84, 36) ∉ Y) : mPl h' E := by
  unfold mPl
  rw [F.gi hY, F.i h2, F.i h3]
  exact L
/-- the open questions -/
def ifR (f g : Nat → Int32) : List (Nat × Bool) → Prop
  | [] => True
  | q :: I => (f I.length = nI q.1 ∧ g I.length = nI (if q.2 = true then 0 else 1)) ∧ ifR f g I
theorem ifR_c {f g f' g' : Nat → Int32} : ∀ {I : List (Nat × Bool)}, ifR f g I → (∀ j, j < I.length → f' j = f j ∧ g' j = g j) → ifR f' g' I
  | [], _, _ => trivial
  | e :: I, a, h => ⟨by rw [(h I.length (Nat.lt_succ_self _)).1, (h I.length (Nat.lt_succ_self _)).2]; exact a.1, ifR_c a.2 (fun j hj => h j (Nat.lt_succ_of_lt hj))⟩
def mIf (h : zH) (I : List (Nat × Bool)) : Prop := gI h 84 37 = nI I.length ∧ ifR (aI h 104) (aI h 105) I
theorem mIf.fr {X : List Nat} {Y : List (Nat × Nat)} (L : mIf h I) (F : fr X Y h h') (h2 : 104 ∉ X) (h3 : 105 ∉ X) (hY : (84, 37) ∉ Y) : mIf h' I := by
  unfold mIf
  rw [F.gi hY, F.i h2, F.i h3]
  exact L
theorem e12_push {x y : Int32} {k : Nat} (M : mLay h) (g36 : gI h 84 36 = nI k) (hk : k < 120) (H : ∀ h', fr [102, 103] [(84, 36)] h h' → gI h' 84 36 = nI (k + 1) → aI h' 102 k = x → aI h' 103 k = y → (∀ j, j ≠ k → aI h' 102 j = aI h 102 j ∧ aI h' 103 j = aI h 103 j) → Q none h') : zC mX12_pushE [.ref 84, .int x, .int y] h Q := by
  have ck : (nI k).toNatClampNeg = k := nI_clamp (by omega)
  refine nX12_pushE _ _ _ _ _ (bX12_pushE_0 _ _ _ _ _ ⟨M.o, _, M.r28, M.k28, ?_⟩)
  rw [g36, ck, M.n28]
  refine ⟨vp_in_nI hk (by decide), fun h5 e5 => ?_⟩
  have F5 : fr [102, 103] [(84, 36)] h h5 := by rw [e5]; exact fr_pI (by simp)
  have M5 : mLay h5 := M.fr F5 (by decide)
  have g5 : gI h5 84 36 = nI k := by rw [e5, gI_pI]; exact g36
  refine ⟨_, M5.r29, M5.k29, ?_⟩
  rw [g5, ck, M5.n29]
  refine ⟨vp_in_nI hk (by decide), fun h11 e11 h15 e15 => ?_⟩
  have F11 : fr [102, 103] [(84, 36)] h5 h11 := by rw [e11]; exact fr_pI (by simp)
  have g11 : gI h11 84 36 = nI k := by rw [e11, gI_pI]; exact g5
  rw [g11, nI_1] at e15
  have o11 := F11.o M5.o
  have F15 : fr [102, 103] [(84, 36)] h11 h15 := by rw [e15]; exact fr_pF (by simp) o11 rfl rfl
  have i15 : ∀ r, aI h15 r = aI h11 r := fun r => by rw [e15]; exact funext fun i => aI_pF
  refine H h15 (F5.tr (F11.tr F15)) (by rw [e15, gI_pF_s o11 (by decide)]) ?_ ?_ (fun j hj => ⟨?_, ?_⟩)
  · rw [i15, e11, aI_pI_n (Or.inl (by decide)), e5]; exact aI_pI_s ⟨_, M.k28⟩
  · rw [i15, e11]; exact aI_pI_s ⟨_, M5.k29⟩
  · rw [i15, e11, aI_pI_n (Or.inl (by decide)), e5, aI_pI_n (Or.inr hj)]
  · rw [i15, e11, aI_pI_n (Or.inr hj), e5, aI_pI_n (Or.inl (by decide))]
/-- a sign piled -/
theorem e12_pushS {s : Nat} {x y : Int32} (M : mLay h) (L : mPl h E) (hE : E.length < 119) (hx : x = nI (eWt s)) (hy : y = nI (eSg s)) (H : ∀ h', fr [102, 103] [(84, 36)] h h' → mPl h' (s :: E) → Q none h') : zC mX12_pushE [.ref 84, .int x, .int y] h Q := by
  refine e12_push (k := E.length + 1) M L.1 (by omega) (fun h' F g36 a2 a3 ne => H h' F ⟨g36, ?_, ⟨?_, ?_⟩, ?_⟩)
  · rw [(ne 0 (by omega)).1]; exact L.2.1
  · rw [← hx]; exact a2
  · rw [← hy]; exact a3
  · exact plR_c L.2.2 (fun j hj => ⟨(ne (j + 1) (by omega)).1, (ne (j + 1) (by omega)).2⟩)
/-- how a token binds as a sign -/
def rkT (κ : Nat) : Nat := if κ = 15 then 2 else if κ = 14 then 1 else if κ = 25 then 4 else if κ = 26 then 4 else if κ = 27 then 4 else if κ = 28 then 5 else if κ = 29 then 5 else 0
theorem e12_rank (P : mPs h n bs i) (H : Q (some (.int (nI (rkT (tk n bs i).1)))) h) : zC mX12_rankHere [.ref 84] h Q := by
  have M := P.1
  have s3 : (60 : Int32) = nI (sgL.getD 3 0) := by decide +kernel
  have s4 : (62 : Int32) = nI (sgL.getD 4 0) := by decide +kernel
  have s5 : (61 : Int32) = nI (sgL.getD 5 0) := by decide +kernel
  have s6 : (43 : Int32) = nI (sgL.getD 6 0) := by decide +kernel
  have s7 : (45 : Int32) = nI (sgL.getD 7 0) := by decide +kernel
  unfold rkT at H
  refine nX12_rankHere _ _ _ (bX12_rankHere_0 _ _ _ ⟨M.o, s12_isWord (k := 15) P (by decide) wI15 (fun q => ⟨_, rfl, br_f (by decide +kernel) ?_⟩) (fun q1 => ⟨_, rfl, br_t rfl ⟨M.o, s12_isWord (k := 14) P (by decide) wI14 (fun q => ⟨_, rfl, br_f (by decide +kernel) ?_⟩) (fun q2 => ⟨_, rfl, br_t rfl ⟨M.o, s12_stands (g := 3) P (by decide) s3 (fun q => ⟨_, rfl, br_f (by decide +kernel) ?_⟩) (fun q3 => ⟨_, rfl, br_t rfl ⟨M.o, s12_stands (g := 4) P (by decide) s4 (fun q => ⟨_, rfl, br_f (by decide +kernel) ?_⟩) (fun q4 => ⟨_, rfl, br_t rfl ⟨M.o, s12_stands (g := 5) P (by decide) s5 (fun q => ⟨_, rfl, br_f (by decide +kernel) ?_⟩) (fun q5 => ⟨_, rfl, br_t rfl ⟨M.o, s12_stands (g := 6) P (by decide) s6 (fun q => ⟨_, rfl, br_f (by decide +kernel) ?_⟩) (fun q6 => ⟨_, rfl, br_t rfl ⟨M.o, s12_stands (g := 7) P (by decide) s7 (fun q => ⟨_, rfl, br_f (by decide +kernel) ?_⟩) (fun q7 => ⟨_, rfl, br_t rfl ?_⟩)⟩⟩)⟩⟩)⟩⟩)⟩⟩)⟩⟩)⟩⟩)⟩)
  · rw [if_pos q] at H; exact H
  · rw [if_neg q1, if_pos q] at H; exact H
  · rw [if_neg q1, if_neg q2, if_pos q] at H; exact H
  · rw [if_neg q1, if_neg q2, if_neg q3, if_pos q] at H; exact H
  · rw [if_neg q1, if_neg q2, if_neg q3, if_neg q4, if_pos q] at H; exact H
  · rw [if_neg q1, if_neg q2, if_neg q3, if_neg q4, if_neg q5, if_pos q] at H; exact H
  · rw [if_neg q1, if_neg q2, if_neg q3, if_neg q4, if_neg q5, if_neg q6, if_pos q] at H; exact H
  · rw [if_neg q1, if_neg q2, if_neg q3, if_neg q4, if_neg q5, if_neg q6, if_neg q7] at H; exact H
/-- whether what stands open is a relation -/
def cmpB : List Nat → Bool
  | [] => false
  | e :: E => if eWt e = 5 then cmpB E else decide (eWt e = 4)
theorem bnd5 (k : Nat) : bnd k ≤ 5 := by
  rcases Nat.lt_or_ge k 12 with z | z
  · exact (by decide +kernel : ∀ k, k < 12 → bnd k ≤ 5) k z
  · unfold bnd
    rw [List.getD_eq_getElem?_getD, List.getElem?_eq_none (by simpa using z)]
    exact Nat.zero_le _
theorem eWt_3 : eWt 3 = 6 := rfl
theorem eWt_n {k : Nat} (hk : k ≠ 3) : eWt k = bnd k := by unfold eWt; rw [if_neg hk]
theorem eWt_le (k : Nat) : eWt k ≤ 6 := by
  unfold eWt
  split
  · omega
  · have := bnd5 k; omega
theorem cmpB_iff : ∀ (E : List Nat) (m : Nat) (c : Nat → zOp), cmpB E = true ↔ bnd ((stl 5 E m c).1.headD 0) = 4
  | [], m, c => by
    have : bnd 0 = 0 := rfl
    simp [cmpB, stl, this]
  | e :: E, m, c => by
    rw [cmpB, stl]
    by_cases z : e = 3
    · rw [z, eWt_3, if_neg (by decide), if_neg (by rw [bnd_3]; decide)]
      show decide ((6 : Nat) = 4) = true ↔ bnd 3 = 4
      rw [bnd_3]; decide
    · rw [eWt_n z]
      have b5 := bnd5 e
      by_cases y : bnd e = 5
      · rw [if_pos y, if_pos (by omega)]
        exact cmpB_iff E (m + 1) _
      · rw [if_neg y, if_neg (by omega)]
        show decide (bnd e = 4) = true ↔ bnd e = 4
        exact decide_eq_true_iff
theorem cmpB_stl : ∀ (E : List Nat) (m : Nat) (c : Nat → zOp), cmpB E = false → stl 4 E m c = stl 5 E m c
  | [], _, _, _ => rfl
  | e :: E, m, c, h => by
    rw [stl, stl]
    rw [cmpB] at h
    by_cases z : e = 3
    · rw [z, if_neg (by rw [bnd_3]; decide), if_neg (by rw [bnd_3]; decide)]
    · rw [eWt_n z] at h
      have b5 := bnd5 e
      by_cases y : bnd e = 5
      · rw [if_pos y] at h
        rw [if_pos (by omega), if_pos (by omega)]
        exact cmpB_stl E (m + 1) _ h
      · rw [if_neg y] at h
        have : bnd e ≠ 4 := by simpa using h
        rw [if_neg (by omega), if_neg (by omega)]
theorem l12_isCompared (M : mLay h) : ∀ (E : List Nat), E.length < 119 → aI h 102 0 = nI 7 → plR (fun j => aI h 102 (j + 1)) (fun j => aI h 103 (j + 1)) E → Q (some (.int (if cmpB E = true then 1 else 0))) h → zX mX12_isCompared 7 [.ref 84, .int (nI E.length)] [] h Q
  | [], _, h0, _, H => by
    have e0 : (nI (0 : Nat)).toNatClampNeg = 0 := nI_clamp (by decide)
    refine bX12_isCompared_7 _ _ _ _ ⟨M.o, _, M.r28, M.k28, ?_⟩
    rw [List.length_nil, e0, h0, M.n28]
    exact ⟨vp_in_nI (by decide) (by decide), br_f (by decide +kernel) ⟨vp_in_nI (by decide) (by decide), br_f (by decide +kernel) H⟩⟩
  | e :: E, hE, h0, L, H => by
    have lE : (e :: E).length = E.length + 1 := rfl
    have ck : (nI (E.length + 1)).toNatClampNeg = E.length + 1 := nI_clamp (by omega)
    have a : aI h 102 (E.length + 1) = nI (eWt e) := L.1.1
    have w6 := eWt_le e
    rw [lE] at hE
    refine bX12_isCompared_7 _ _ _ _ ⟨M.o, _, M.r28, M.k28, ?_⟩
    rw [lE, ck, a, M.n28, nI_lit 5, nI_lit 4, nI_eq (by omega) (by decide), nI_eq (by omega) (by decide), nI_dn]
    rw [cmpB] at H
    refine ⟨vp_in_nI (by omega) (by decide), fun q => ?_, fun q => ⟨vp_in_nI (by omega) (by decide), fun q4 => ?_, fun q4 => ?_⟩⟩
    · rw [if_pos q] at H
      exact l12_isCompared M E (by omega) h0 L.2 H
    · rw [if_neg q, if_pos (by simpa using q4)] at H; exact H
    · rw [if_neg q, if_neg (by simpa using q4)] at H; exact H
theorem e12_isCompared (M : mLay h) (L : mPl h E) (hE : E.length < 119) (H : Q (some (.int (if cmpB E = true then 1 else 0))) h) : zC mX12_isCompared [.ref 84] h Q := by
  refine nX12_isCompared _ _ _ (bX12_isCompared_0 _ _ _ ⟨M.o, ?_⟩)
  rw [L.1, nI_pred]
  exact l12_isCompared M E hE L.2.1 L.2.2 H
end

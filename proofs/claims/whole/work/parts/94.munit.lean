/-! ===== the reference's reader: a unit ===== -/
section
variable {h h' : zH} {Q : Option Value → zH → Prop} {n i p m u w own lim rb : Nat} {bs : Nat → Nat} {c : Nat → zOp} {K : zKs} {E : List Nat} {I : List (Nat × Bool)} {e : Nat × Nat}
theorem s12_streetBehind0 (L : mLo h n bs e) (H : Q (some (.int (-1))) h) : zC mX12_streetBehind [.ref 84] h Q :=
  nX12_streetBehind _ _ _ (bX12_streetBehind_0 _ _ _ ⟨L.l.o, s12_isGood L.l (fun g => absurd g L.ng) (fun _ => ⟨_, rfl, br_t rfl H⟩)⟩)
/-- a name's place, behind a fault -/
theorem s12_nameHere0 (L : mLo h n bs e) (A : mKy h rb K) (O : kyO K) (H : ∀ x : Int32, Q (some (.int x)) h) : zC mX12_nameHere [.ref 84] h Q := by
  obtain ⟨⟨j, P⟩, -⟩ := L
  exact s12_nameHere P A O (H _)
/-- the reference's reader stands as s says -/
def mSt (h : zH) (n : Nat) (bs : Nat → Nat) (p own lim : Nat) (s : zPs) : Prop := mRd h n bs s.2.2.2.2.1 p own lim s.2.2.2.1.1 s.2.2.2.1.2 s.2.2.2.2.2 (wth s) ∧ mIf h s.2.2.1 ∧ ((s.1 = 1 ∨ s.1 = 2) → mPl h s.2.1)
theorem wth_1 : wth (1, E, I, (m, c), (i, u)) = ard E + 1 + I.length := rfl
theorem wth_2 : wth (2, E, I, (m, c), (i, u)) = ard E + 1 + I.length := rfl
theorem wth_0 : wth (0, E, I, (m, c), (i, u)) = ard E + I.length := rfl
theorem wth_3 : wth (3, E, I, (m, c), (i, u)) = ard E + I.length := rfl
theorem wth_4 : wth (4, E, I, (m, c), (i, u)) = ard E + I.length := rfl
/-- misplaced there -/
theorem u12_139 {l2 l3 : Int32} (R : mRd h n bs i p own lim m c u w) (H : ∀ h', mFu p h h' → mLo h' n bs (mp n bs i) → Q (some (.int 1)) h') : zX mX12_unit 139 [.ref 84, .float 0, .int l2, .int l3, .float 0, .float 0, .float 0, .float 0] [] h Q := by
  have M := R.1.1
  refine bX12_unit_139 _ _ _ _ _ ⟨M.o, s12_misplaced R.1 R.2.1 (fun h' F E => ⟨rfl, ?_⟩)⟩
  have M' : mLay h' := M.fr F (by decide)
  exact bX12_unit_143 _ _ _ _ _ ⟨M'.o, s12_isGood M' (fun g => absurd g E.ne) (fun _ => ⟨_, rfl, br_t rfl (H h' (mFg.of F (by decide) (by decide) (by decide)) ⟨⟨i, R.1.fr F (by simp) (by decide) (by simp) (by decide)⟩, E⟩)⟩)⟩
/-- counted, then on -/
theorem u12_143 {l3 : Int32} (R : mRd h n bs i p own lim m c u w) (hp : p < 48) (hu : u ≤ lim) (hl : lim ≤ 80) (H1 : u ≠ lim → ∀ h', mFu p h h' → fr [98] [] h h' → mRd h' n bs i p own lim m c (u + 1) w → zX mX12_unit 163 [.ref 84, .float 0, .int 0, .int l3, .float 0, .float 0, .float 0, .float 0] [] h' Q) (H2 : u = lim → ∀ h', mFu p h h' → mLo h' n bs (mp n bs i) → Q (some (.int 1)) h') : zX mX12_unit 143 [.ref 84, .float 0, .int 0, .int l3, .float 0, .float 0, .float 0, .float 0] [] h Q := by
  have M := R.1.1
  exact bX12_unit_143 _ _ _ _ _ ⟨M.o, s12_isGood M (fun _ => ⟨_, rfl, br_f (by decide +kernel) (br_t rfl ⟨M.o, e12_counts R hp hu hl (fun q h1 F1 G1 R1 => ⟨_, rfl, br_f (by decide +kernel) (H1 q h1 F1 G1 R1)⟩) (fun q h1 F1 L1 => ⟨_, rfl, br_t rfl (H2 q h1 F1 L1)⟩)⟩)⟩) (fun g => absurd R.2.1 g)⟩
/-- a bracket, a not: gone on, piled -/
theorem u12_171 {l2 : Int32} {s : Nat} (R : mRd h n bs i p own lim m c u (ard E + 1 + I.length)) (J : mIf h I) (L : mPl h E) (hE : E.length < 119) (hs : (l2 = 0 ∧ s = 3) ∨ (l2 = 1 ∧ s = 6)) (H : ∀ h', mFu p h h' → mSt h' n bs p own lim (1, s :: E, I, (m, c), (i + 1, u)) → Q (some (.int 1)) h') : zX mX12_unit 171 [.ref 84, .float 0, .int l2, .float 0, .float 0, .float 0, .float 0, .float 0] [] h Q := by
  have M := R.1.1
  refine bX12_unit_171 _ _ _ _ ⟨M.o, s12_goOnT R.1 (fun h2 F2 P2 => ⟨rfl, ?_⟩)⟩
  have R2 := mRd_to R F2 P2 (R.2.1.fr F2 (by simp)) (by decide) (by decide)
  have L2 := L.fr F2 (by simp) (by simp) (by simp)
  have fin : ∀ (h5 h7 : zH), fr [102, 103] [(84, 36)] h2 h5 → mPl h5 (s :: E) → h7 = (pF h5 84 35 (.int ((gI h5 84 35) + (1 : Int32)))) → Q (some (.int (1 : Int32))) h7 := fun h5 h7 F5 L5 e7 => by
    have R5 := R2.fr F5 (by decide) (by decide) (by decide)
    have o5 := R5.1.1.o
    have F7 : fr [] [(84, 35)] h5 h7 := by rw [e7]; exact fr_pF (by simp) o5 rfl rfl
    obtain ⟨P5, g5, w1, w2, w3, w4, w5, w6, w7⟩ := R5
    refine H h7 ((mFg.of F2 (by decide) (by decide) (by decide)).tr ((mFg.of F5 (by decide) (by decide) (by decide)).tr (mFg.of F7 (by decide) (by decide) (by decide)))) ⟨⟨P5.fr F7 (by simp) (by decide) (by simp) (by decide), g5.fr F7 (by simp), by rw [F7.gi (by simp)]; exact w1, by rw [F7.gi (by simp)]; exact w2, by rw [F7.gi (by simp)]; exact w3, by rw [F7.i (by simp)]; exact w4, ?_, by rw [F7.i (by simp)]; exact w6, fun j hj => ?_⟩, ?_, fun _ => ?_⟩
    · rw [e7, gI_pF_s o5 (by decide), w5, nI_1, wth_1, ard]
      have : (if s = 3 ∨ s = 6 then 1 else 0) = 1 := by rw [if_pos (by omega)]
      rw [this]
      congr 1
      omega
    · rw [F7.i (by simp), F7.i (by simp), F7.i (by simp)]; exact w7 j hj
    · exact ((J.fr F2 (by simp) (by simp) (by simp)).fr F5 (by simp) (by simp) (by simp)).fr F7 (by simp) (by simp) (by simp)
    · exact L5.fr F7 (by simp) (by simp) (by simp)
  rcases hs with ⟨rfl, rfl⟩ | ⟨rfl, rfl⟩
  · refine br_t rfl ⟨P2.1.o, e12_pushS (s := 3) P2.1 L2 hE (by decide +kernel) (by decide +kernel) (fun h5 F5 L5 => ⟨rfl, F5.o P2.1.o, fun h7 e7 => fin h5 h7 F5 L5 e7⟩)⟩
  · refine br_f (by decide +kernel) ⟨P2.1.o, e12_pushS (s := 6) P2.1 L2 hE (by decide +kernel) (by decide +kernel) (fun h5 F5 L5 => ⟨rfl, F5.o P2.1.o, fun h7 e7 => fin h5 h7 F5 L5 e7⟩)⟩
/-- a unit of one word -/
theorem u12_246 {k : Nat} (O : kyO K) (A : mKy h rb K) (hp : p < 48) (hm : m < 640) (ho : own < 8) (R : mRd h n bs i p own lim m c (u + 1) (ard E + 1 + I.length)) (J : mIf h I) (L : mPl h E) (hu : u ≠ lim) (hk : (k = 1 ∧ (tk n bs i).1 = 21) ∨ (k = 2 ∧ (tk n bs i).1 = 17) ∨ (k = 3 ∧ (tk n bs i).1 = 18) ∨ (k = 4 ∧ (tk n bs i).1 = 19))
    (H1 : ∀ s', sUn n bs K own lim E I m c i u = .inr s' → ∀ h', mFu p h h' → mSt h' n bs p own lim s' → Q (some (.int 0)) h')
    (H2 : ∀ e, sUn n bs K own lim E I m c i u = .inl e → ∀ h', mFu p h h' → mLo h' n bs e → Q (some (.int 0)) h') : zX mX12_unit 246 [.ref 84, .float 0, .float 0, .float 0, .float 0, .float 0, .float 0, .float 0] [.int (nI k)] h Q := by
  have M := R.1.1
  have o3 := O.1.1
  have o4 := O.2.1.1
  have o8 := O.2.2.1
  unfold sUn at H1 H2
  simp only [] at H1 H2
  -- the step is put, all is well
  have good : ∀ (o : zOp) (i' : Nat) (h1 : zH) (x a b : Int32), mFu p h h1 → fr [] YM h h1 → mPs h1 n bs i' → mGd h1 → opM x a b o → (∀ h', mFu p h h' → mSt h' n bs p own lim (2, E, I, (m + 1, pE c m o), (i', u + 1)) → Q (some (.int 0)) h') → zC mX12_emit [.ref 84, .int x, .int a, .int b] h1 (fun r0 h5 => r0 = none ∧ (Q (some (.int (0 : Int32))) h5)) := fun o i' h1 x a b F1 G1 P1 g1 hop fin => by
    have R1 := mRd_to R G1 P1 g1 (by decide) (by decide)
    refine e12_emit R1 hp hm hop (fun h5 F5 G5 R5 => ⟨rfl, fin h5 (F1.tr F5) ⟨?_, ?_, fun _ => ?_⟩⟩)
    · rw [wth_2]; exact R5
    · exact (J.fr G1 (by simp) (by simp) (by simp)).fr G5 (by simp) (by simp) (by simp)
    · exact (L.fr G1 (by simp) (by simp) (by simp)).fr G5 (by simp) (by simp) (by simp)
  have bad : ∀ (e : Nat × Nat) (h1 : zH) (x a b : Int32), mFu p h h1 → fr [] YM h h1 → mLo h1 n bs e → (∀ h', mFu p h h' → mLo h' n bs e → Q (some (.int 0)) h') → zC mX12_emit [.ref 84, .int x, .int a, .int b] h1 (fun r0 h5 => r0 = none ∧ (Q (some (.int (0 : Int32))) h5)) := fun e h1 x a b F1 G1 L1 fin =>
    e12_emit0 L1 (by rw [G1.gi (by simp)]; exact R.2.2.1) hp (by rw [G1.i (by simp)]; exact R.2.2.2.2.2.2.2.1) hm (fun h5 F5 L5 => ⟨rfl, fin h5 (F1.tr F5) L5⟩)
  refine bX12_unit_246 _ _ _ _ ⟨M.o, s12_goOnT R.1 (fun h2 F2 P2 => ⟨rfl, ?_⟩)⟩
  have G2 : fr [] YM h h2 := F2.mo (by simp) (by simp)
  have W2 : mFu p h h2 := mFg.of F2 (by decide) (by decide) (by decide)
  have g2 := R.2.1.fr F2 (by simp)
  have A2 := A.fr F2 (by decide) (by simp)
  have M2 := P2.1
  have h33 : gI h2 84 33 = nI own := by rw [F2.gi (by simp)]; exact R.2.2.2.1
  have k1 : ∀ a b : Nat, a < 5 → b < 5 → a ≠ b → ¬ nI a = nI b := fun a b ha hb hn z => hn ((nI_eq (by omega) (by omega)).mp z)
  rcases hk with ⟨rfl, q⟩ | ⟨rfl, q⟩ | ⟨rfl, q⟩ | ⟨rfl, q⟩
  · rw [if_neg (by omega), if_neg (by omega), if_pos q, if_neg hu] at H1
    refine br_t rfl ⟨M2.o, ?_⟩
    rw [R.1.2.2.2.2.2.2 q]
    exact good (0, 0, (tk n bs i).2.2.1) (i + 1) h2 _ _ _ W2 G2 P2 g2 (Or.inl ⟨rfl, by decide +kernel, rfl⟩) (fun h' F' S' => H1 _ rfl h' F' S')
  · rw [if_neg (by omega), if_neg (by omega), if_neg (by omega), if_pos q, if_neg hu] at H1 H2
    refine br_f (k1 2 1 (by decide) (by decide) (by decide)) (br_f (k1 2 4 (by decide) (by decide) (by decide)) (br_t (by decide +kernel) ⟨M2.o, s12_nameHere P2 A2 O ⟨_, rfl, M2.o, s12_told P2 g2 (by omega) (fun h3 v ev F3 P3 g3 => ⟨_, rfl, P3.1.o, ?_⟩) (fun h3 e v ev F3 L3 hv => ⟨_, rfl, L3.l.o, s12_streetBehind0 L3 ⟨_, rfl, L3.l.o, ?_⟩⟩)⟩⟩))
    · rw [ev] at H1 H2
      simp only [] at H1 H2
      have A3 := A2.fr F3 (by decide) (by simp)
      have W3 : mFu p h h3 := W2.tr (mFg.of F3 (by decide) (by decide) (by decide))
      refine s12_streetBehind P3 A3 O g3 (fun h4 r er F4 P4 g4 => ⟨_, rfl, P4.1.o, ?_⟩) (fun h4 e x er F4 L4 => ⟨_, rfl, L4.l.o, ?_⟩)
      · rw [er] at H1
        exact good (1, r.2, v + 1) r.1 h4 _ _ _ (W3.tr (mFg.of F4 (by decide) (by decide) (by decide))) (G2.tr (F3.tr F4)) P4 g4 (Or.inr (Or.inl ⟨rfl, rfl, by decide +kernel, nI_1 v, Nat.succ_pos v⟩)) (fun h' F' S' => H1 _ rfl h' F' S')
      · rw [er] at H2
        exact bad e h4 _ _ _ (W3.tr (mFg.of F4 (by decide) (by decide) (by decide))) (G2.tr (F3.tr F4)) L4 (fun h' F' S' => H2 _ rfl h' F' S')
    · rw [ev] at H2
      exact bad e h3 _ _ _ (W2.tr (mFg.of F3 (by decide) (by decide) (by decide))) (G2.tr F3) L3 (fun h' F' S' => H2 _ rfl h' F' S')
  · rw [if_neg (by omega), if_neg (by omega), if_neg (by omega), if_neg (by omega), if_pos q, if_neg hu] at H1 H2
    refine br_f (k1 3 1 (by decide) (by decide) (by decide)) (br_f (k1 3 4 (by decide) (by decide) (by decide)) (br_f (k1 3 2 (by decide) (by decide) (by decide)) ⟨M2.o, s12_streetBehind P2 A2 O g2 (fun h4 r er F4 P4 g4 => ⟨_, rfl, P4.1.o, ?_⟩) (fun h4 e x er F4 L4 => ⟨_, rfl, L4.l.o, ?_⟩)⟩))
    · rw [er] at H1
      exact good (1, r.2, 0) r.1 h4 _ _ _ (W2.tr (mFg.of F4 (by decide) (by decide) (by decide))) (G2.tr F4) P4 g4 (Or.inr (Or.inr (Or.inl ⟨rfl, rfl, by decide +kernel, rfl⟩))) (fun h' F' S' => H1 _ rfl h' F' S')
    · rw [er] at H2
      exact bad e h4 _ _ _ (W2.tr (mFg.of F4 (by decide) (by decide) (by decide))) (G2.tr F4) L4 (fun h' F' S' => H2 _ rfl h' F' S')
  · rw [if_neg (by omega), if_neg (by omega), if_neg (by omega), if_neg (by omega), if_neg (by omega), if_pos q, if_neg hu] at H1 H2
    refine br_f (k1 4 1 (by decide) (by decide) (by decide)) (br_t (by decide +kernel) ⟨M2.o, s12_other P2 A2 O g2 h33 ho (fun h3 v ev F3 P3 g3 => ⟨_, rfl, P3.1.o, ?_⟩) (fun h3 e v ev F3 L3 hv => ⟨_, rfl, L3.l.o, s12_nameHere0 L3 (A2.fr F3 (by decide) (by simp)) O (fun x => ⟨_, rfl, L3.l.o, s12_told0 L3.l L3.2 ⟨_, rfl, L3.l.o, ?_⟩⟩)⟩)⟩)
    · rw [ev] at H1 H2
      simp only [] at H1 H2
      have A3 := A2.fr F3 (by decide) (by simp)
      have W3 : mFu p h h3 := W2.tr (mFg.of F3 (by decide) (by decide) (by decide))
      refine s12_nameHere P3 A3 O ⟨_, rfl, P3.1.o, s12_told P3 g3 (by omega) (fun h4 v2 ev2 F4 P4 g4 => ⟨_, rfl, P4.1.o, ?_⟩) (fun h4 e v2 ev2 F4 L4 hv => ⟨_, rfl, L4.l.o, ?_⟩)⟩
      · rw [ev2] at H1
        exact good (2, v2 + 1, v) (i + 3) h4 _ _ _ (W3.tr (mFg.of F4 (by decide) (by decide) (by decide))) (G2.tr (F3.tr F4)) P4 g4 (Or.inr (Or.inr (Or.inr (Or.inl ⟨rfl, by decide +kernel, rfl, nI_1 v2⟩)))) (fun h' F' S' => H1 _ rfl h' F' S')
      · rw [ev2] at H2
        exact bad e h4 _ _ _ (W3.tr (mFg.of F4 (by decide) (by decide) (by decide))) (G2.tr (F3.tr F4)) L4 (fun h' F' S' => H2 _ rfl h' F' S')
    · rw [ev] at H2
      exact bad e h3 _ _ _ (W2.tr (mFg.of F3 (by decide) (by decide) (by decide))) (G2.tr F3) L3 (fun h' F' S' => H2 _ rfl h' F' S')
/-- a unit -/
theorem e12_unit (O : kyO K) (hE : wfE E) (hw : ard E + I.length ≤ 6) (hm : m + pnd E ≤ 8 * u + nrn E) (hu : u ≤ lim) (hl : lim ≤ 80) (hp : p < 48) (ho : own < 8) (A : mKy h rb K) (S : mSt h n bs p own lim (1, E, I, (m, c), (i, u)))
    (H1 : ∀ s', sUn n bs K own lim E I m c i u = .inr s' → ∀ h' x, x = (if s'.1 = 1 then (1 : Int32) else 0) → mFu p h h' → mSt h' n bs p own lim s' → Q (some (.int x)) h')
    (H2 : ∀ e, sUn n bs K own lim E I m c i u = .inl e → ∀ h' x, mFu p h h' → mLo h' n bs e → Q (some (.int x)) h') : zC mX12_unit [.ref 84] h Q := by
  obtain ⟨R, J, L⟩ := S
  dsimp only at R J
  have L : mPl h E := L (Or.inl rfl)
  rw [wth_1] at R
  have P := R.1
  have M := P.1
  have nr := nrn_le E
  have l34 := (opd_35 hE (by omega)).2
  have b31 := (tk_k (n := n) (bs := bs) i).1
  have kk := mkk_lt (k := (tk n bs i).1) (by omega)
  have s1 : (40 : Int32) = nI (sgL.getD 1 0) := by decide +kernel
  have R35 : gI h 84 35 = nI (ard E + 1 + I.length) := R.2.2.2.2.2.2.1
  have q7 : gI h 84 35 = (7 : Int32) ↔ ard E + 1 + I.length = 7 := by rw [R35, nI_lit 7]; exact nI_eq (by omega) (by decide)
  -- a single word
  have one : ∀ k : Nat, ((k = 1 ∧ (tk n bs i).1 = 21) ∨ (k = 2 ∧ (tk n bs i).1 = 17) ∨ (k = 3 ∧ (tk n bs i).1 = 18) ∨ (k = 4 ∧ (tk n bs i).1 = 19)) → zX mX12_unit 143 [.ref 84, .float 0, .int 0, .int 0, .float 0, .float 0, .float 0, .float 0] [] h Q := fun k hk => by
    refine u12_143 R hp hu hl (fun ne h1 F1 G1 R1 => ?_) (fun z h1 F1 L1 => ?_)
    · have A1 := A.fr G1 (by decide) (by simp)
      have J1 := J.fr G1 (by simp) (by simp) (by simp)
      have L1 := L.fr G1 (by simp) (by simp) (by simp)
      have M1 := R1.1.1
      have go : ∀ k' : Nat, ((k' = 1 ∧ (tk n bs i).1 = 21) ∨ (k' = 2 ∧ (tk n bs i).1 = 17) ∨ (k' = 3 ∧ (tk n bs i).1 = 18) ∨ (k' = 4 ∧ (tk n bs i).1 = 19)) → ∀ x : Int32, x = nI k' → zX mX12_unit 246 [.ref 84, .float 0, .float 0, .float 0, .float 0, .float 0, .float 0, .float 0] [.int x] h1 Q := fun k' hk' x hx => by
        rw [hx]
        refine u12_246 O A1 hp (by omega) ho R1 J1 L1 ne hk' (fun s' es h' F' S' => H1 s' es h' 0 ?_ (F1.tr F') S') (fun e ee h' F' L' => H2 e ee h' 0 (F1.tr F') L')
        have : s'.1 = 2 := by
          unfold sUn at es
          simp only [] at es
          have c16 : ¬ (tk n bs i).1 = 16 := by omega
          have c23 : ¬ (tk n bs i).1 = 23 := by omega
          rw [if_neg c16, if_neg c23] at es
          repeat' split at es
          all_goals first | (cases es; rfl) | cases es
        rw [if_neg (by omega)]
      refine bX12_unit_163 _ _ _ _ _ (br_t rfl (br_t rfl ⟨M1.o, s12_isWord (k := 17) R1.1 (by decide) wI17 (fun q => ⟨_, rfl, br_f (by decide +kernel) (go 2 (Or.inr (Or.inl ⟨rfl, q⟩)) _ (by decide +kernel))⟩) (fun n17 => ⟨_, rfl, br_t rfl ⟨M1.o, s12_isWord (k := 18) R1.1 (by decide) wI18 (fun q => ⟨_, rfl, br_f (by decide +kernel) (go 3 (Or.inr (Or.inr (Or.inl ⟨rfl, q⟩))) _ (by decide +kernel))⟩) (fun n18 => ⟨_, rfl, br_t rfl ⟨M1.o, s12_isWord (k := 19) R1.1 (by decide) wI19 (fun q => ⟨_, rfl, br_f (by decide +kernel) (go 4 (Or.inr (Or.inr (Or.inr ⟨rfl, q⟩))) _ (by decide +kernel))⟩) (fun n19 => ⟨_, rfl, br_t rfl (go 1 (Or.inl ⟨rfl, by omega⟩) _ (by decide +kernel))⟩)⟩⟩)⟩⟩)⟩))
    · refine H2 _ ?_ h1 1 F1 L1
      unfold sUn
      simp only []
      rcases hk with ⟨-, q⟩ | ⟨-, q⟩ | ⟨-, q⟩ | ⟨-, q⟩
      · rw [if_neg (by omega), if_neg (by omega), if_pos q, if_pos z]
      · rw [if_neg (by omega), if_neg (by omega), if_neg (by omega), if_pos q, if_pos z]
      · rw [if_neg (by omega), if_neg (by omega), if_neg (by omega), if_neg (by omega), if_pos q, if_pos z]
      · rw [if_neg (by omega), if_neg (by omega), if_neg (by omega), if_neg (by omega), if_neg (by omega), if_pos q, if_pos z]
  -- misplaced
  have flt : ∀ l2 l3 : Int32, sUn n bs K own lim E I m c i u = .inl (mp n bs i) → zX mX12_unit 139 [.ref 84, .float 0, .int l2, .int l3, .float 0, .float 0, .float 0, .float 0] [] h Q := fun l2 l3 es => u12_139 R (fun h' F' L' => H2 _ es h' 1 F' L')
  -- what stands there
  have b56 : ∀ l2 : Int32, (l2 = 1 ∧ (tk n bs i).1 = 16 ∧ bnd (E.headD 0) ≤ 3) ∨ (l2 = 0 ∧ ((tk n bs i).1 = 16 → 4 ≤ bnd (E.headD 0))) → zX mX12_unit 56 [.ref 84, .float 0, .float 0, .float 0, .float 0, .float 0, .float 0, .float 0] [.int l2] h Q := fun l2 hl2 => by
    have tail : ∀ (l3 s0 : Int32), (l3 = 1 ∧ (tk n bs i).1 = 23) ∨ (l3 = 0 ∧ (tk n bs i).1 ≠ 23) → (s0 = 1 ∧ ((tk n bs i).1 = 21 ∨ (tk n bs i).1 = 17 ∨ (tk n bs i).1 = 18 ∨ (tk n bs i).1 = 19)) ∨ (s0 = 0 ∧ (tk n bs i).1 ≠ 21 ∧ (tk n bs i).1 ≠ 17 ∧ (tk n bs i).1 ≠ 18 ∧ (tk n bs i).1 ≠ 19) → zX mX12_unit 107 [.ref 84, .float 0, .int l2, .int l3, .float 0, .float 0, .float 0, .float 0] [.int s0] h Q := fun l3 s0 hl3 hs0 => by
      have deep : ∀ s : Nat, (l2 = 1 ∧ l3 = 0 ∧ s = 6 ∧ (tk n bs i).1 = 16 ∧ bnd (E.headD 0) ≤ 3) ∨ (l2 = 0 ∧ l3 = 1 ∧ s = 3 ∧ (tk n bs i).1 = 23) → zX mX12_unit 130 [.ref 84, .float 0, .int l2, .int l3, .float 0, .float 0, .float 0, .float 0] [] h Q := fun s hs => by
        refine bX12_unit_130 _ _ _ _ _ ⟨M.o, fun q => ?_, fun q => ?_⟩
        · have w7 := q7.mp q
          refine flt l2 l3 ?_
          unfold sUn
          simp only []
          rw [wth_1]
          rcases hs with ⟨-, -, -, q16, -⟩ | ⟨-, -, -, q23⟩
          · rw [if_pos q16, if_pos (Or.inr w7)]
          · rw [if_neg (by omega), if_pos q23, if_pos (Or.inr w7)]
        · have w7 : ¬ ard E + 1 + I.length = 7 := fun z => q (q7.mpr z)
          rcases hs with ⟨rfl, rfl, rfl, q16, b3⟩ | ⟨rfl, rfl, rfl, q23⟩
          · refine bX12_unit_143 _ _ _ _ _ ⟨M.o, s12_isGood M (fun _ => ⟨_, rfl, br_f (by decide +kernel) (br_f (by decide +kernel) (bX12_unit_163 _ _ _ _ _ (br_f (by decide +kernel) (u12_171 R J L (by omega) (Or.inr ⟨rfl, rfl⟩) (fun h' F' S' => H1 (1, 6 :: E, I, (m, c), (i + 1, u)) ?_ h' 1 rfl F' S')))))⟩) (fun g => absurd R.2.1 g)⟩
            unfold sUn
            simp only []
            rw [if_pos q16, wth_1, if_neg (by omega)]
          · refine u12_143 R hp hu hl (fun ne h1 F1 G1 R1 => bX12_unit_163 _ _ _ _ _ (br_t rfl (br_f (by decide +kernel) (u12_171 R1 (J.fr G1 (by simp) (by simp) (by simp)) (L.fr G1 (by simp) (by simp) (by simp)) (by omega) (Or.inl ⟨rfl, rfl⟩) (fun h' F' S' => H1 (1, 3 :: E, I, (m, c), (i + 1, u + 1)) ?_ h' 1 rfl (F1.tr F') S'))))) (fun z h1 F1 L1 => H2 _ ?_ h1 1 F1 L1)
            · unfold sUn
              simp only []
              rw [if_neg (by omega), if_pos q23, wth_1, if_neg (by omega)]
            · unfold sUn
              simp only []
              rw [if_neg (by omega), if_pos q23, if_pos (Or.inl z)]
      refine bX12_unit_107 _ _ _ _ _ _ ?_
      rcases hl2 with ⟨rfl, q16, b3⟩ | ⟨rfl, n16⟩
      · have l30 : l3 = 0 := by
          rcases hl3 with ⟨-, z⟩ | ⟨z, -⟩
          · omega
          · exact z
        subst l30
        exact br_f (by decide +kernel) (bX12_unit_122 _ _ _ _ _ (br_f (by decide +kernel) (deep 6 (Or.inl ⟨rfl, rfl, rfl, q16, b3⟩))))
      · refine br_t rfl ?_
        rcases hl3 with ⟨rfl, q23⟩ | ⟨rfl, n23⟩
        · exact br_f (by decide +kernel) (bX12_unit_122 _ _ _ _ _ (br_t rfl (br_f (by decide +kernel) (deep 3 (Or.inr ⟨rfl, rfl, rfl, q23⟩)))))
        · refine br_t rfl ?_
          rcases hs0 with ⟨rfl, q⟩ | ⟨rfl, n21, n17, n18, n19⟩
          · refine br_f (by decide +kernel) (bX12_unit_122 _ _ _ _ _ (br_t rfl (br_t rfl ?_)))
            rcases q with q | q | q | q
            · exact one 1 (Or.inl ⟨rfl, q⟩)
            · exact one 2 (Or.inr (Or.inl ⟨rfl, q⟩))
            · exact one 3 (Or.inr (Or.inr (Or.inl ⟨rfl, q⟩)))
            · exact one 4 (Or.inr (Or.inr (Or.inr ⟨rfl, q⟩)))
          · refine br_t rfl (flt 0 0 ?_)
            unfold sUn
            simp only []
            by_cases q16 : (tk n bs i).1 = 16
            · rw [if_pos q16, if_pos (Or.inl (n16 q16))]
            · rw [if_neg q16, if_neg n23, if_neg n21, if_neg n17, if_neg n18, if_neg n19]
    have t102 : ∀ l3 : Int32, (l3 = 1 ∧ (tk n bs i).1 = 23) ∨ (l3 = 0 ∧ (tk n bs i).1 ≠ 23) → ((tk n bs i).1 = 21 ∨ (tk n bs i).1 = 17 ∨ (tk n bs i).1 = 18 ∨ (tk n bs i).1 = 19) → zX mX12_unit 102 [.ref 84, .float 0, .int l2, .int l3, .float 0, .float 0, .float 0, .float 0] [] h Q := fun l3 hl3 q => bX12_unit_102 _ _ _ _ _ (tail l3 1 hl3 (Or.inl ⟨rfl, q⟩))
    have mid : ∀ l3 : Int32, (l3 = 1 ∧ (tk n bs i).1 = 23) ∨ (l3 = 0 ∧ (tk n bs i).1 ≠ 23) → ((gI h 84 8 = (4 : Int32) → zX mX12_unit 102 [.ref 84, .float 0, .int l2, .int l3, .float 0, .float 0, .float 0, .float 0] [] h Q) ∧ (¬ (gI h 84 8 = (4 : Int32)) → zC mX12_isWord [.ref 84, .long (508676040051 : Int64)] h (fun r0 h6 => ∃ x7 : Int32, r0 = some (.int x7) ∧ ((x7 = 0 → (oK h6 84 12 ∧ (zC mX12_isWord [.ref 84, .long (108217630616435 : Int64)] h6 (fun r0 h10 => ∃ x11 : Int32, r0 = some (.int x11) ∧ ((x11 = 0 → (oK h10 84 12 ∧ (zC mX12_isWord [.ref 84, .long (26995 : Int64)] h10 (fun r0 h14 => ∃ x15 : Int32, r0 = some (.int x15) ∧ ((x15 = 0 → (zX mX12_unit 107 [.ref 84, .float 0, .int l2, .int l3, .float 0, .float 0, .float 0, .float 0] [.int (0 : Int32)] h14 Q)) ∧ (¬ (x15 = 0) → (zX mX12_unit 102 [.ref 84, .float 0, .int l2, .int l3, .float 0, .float 0, .float 0, .float 0] [] h14 Q))))))) ∧ (¬ (x11 = 0) → (zX mX12_unit 102 [.ref 84, .float 0, .int l2, .int l3, .float 0, .float 0, .float 0, .float 0] [] h10 Q))))))) ∧ (¬ (x7 = 0) → (zX mX12_unit 102 [.ref 84, .float 0, .int l2, .int l3, .float 0, .float 0, .float 0, .float 0] [] h6 Q)))))) := fun l3 hl3 => by
      rw [nI_lit 4, P.2.2.tk b31 4 (by decide), kk.2.2.2.1]
      exact ⟨fun q => t102 l3 hl3 (Or.inl q), fun n21 => s12_isWord (k := 17) P (by decide) wI17 (fun q => ⟨_, rfl, br_f (by decide +kernel) (t102 l3 hl3 (Or.inr (Or.inl q)))⟩) (fun n17 => ⟨_, rfl, br_t rfl ⟨M.o, s12_isWord (k := 18) P (by decide) wI18 (fun q => ⟨_, rfl, br_f (by decide +kernel) (t102 l3 hl3 (Or.inr (Or.inr (Or.inl q))))⟩) (fun n18 => ⟨_, rfl, br_t rfl ⟨M.o, s12_isWord (k := 19) P (by decide) wI19 (fun q => ⟨_, rfl, br_f (by decide +kernel) (t102 l3 hl3 (Or.inr (Or.inr (Or.inr q))))⟩) (fun n19 => ⟨_, rfl, br_t rfl (tail l3 0 hl3 (Or.inr ⟨rfl, n21, n17, n18, n19⟩))⟩)⟩⟩)⟩⟩)⟩
    exact bX12_unit_56 _ _ _ _ ⟨M.o, s12_stands (g := 1) P (by decide) s1 (fun q => ⟨_, rfl, M.o, mid 1 (Or.inl ⟨rfl, q⟩)⟩) (fun q => ⟨_, rfl, M.o, mid 0 (Or.inr ⟨rfl, q⟩)⟩)⟩
  have b36 : ∀ s0 : Int32, (s0 = 1 ∧ bnd (E.headD 0) ≤ 3) ∨ (s0 = 0 ∧ 4 ≤ bnd (E.headD 0)) → zX mX12_unit 36 [.ref 84, .float 0, .float 0, .float 0, .float 0, .float 0, .float 0, .float 0] [.int s0] h Q := fun s0 hs0 => by
    refine bX12_unit_36 _ _ _ _ ?_
    rcases hs0 with ⟨rfl, b3⟩ | ⟨rfl, b4⟩
    · exact br_f (by decide +kernel) ⟨M.o, s12_isWord (k := 16) P (by decide) wI16 (fun q => ⟨_, rfl, br_f (by decide +kernel) (b56 1 (Or.inl ⟨rfl, q, b3⟩))⟩) (fun q => ⟨_, rfl, br_t rfl (bX12_unit_55 _ _ _ (b56 0 (Or.inr ⟨rfl, fun z => absurd z q⟩)))⟩)⟩
    · exact br_t rfl (bX12_unit_55 _ _ _ (b56 0 (Or.inr ⟨rfl, fun _ => b4⟩)))
  have top : ∃ t, aI h 102 E.length = nI t ∧ t ≤ 7 ∧ ((t ≤ 3 ∨ 6 ≤ t) ↔ bnd (E.headD 0) ≤ 3) := by
    cases E with
    | nil => exact ⟨7, L.2.1, by decide, by decide⟩
    | cons a E =>
      have a6 := eWt_le a
      refine ⟨eWt a, L.2.2.1.1, by omega, ?_⟩
      show _ ↔ bnd a ≤ 3
      by_cases z : a = 3
      · rw [z]; decide
      · have b5 := bnd5 a
        rw [eWt_n z]; omega
  obtain ⟨t, t1, t7, tb⟩ := top
  have ck : (nI E.length).toNatClampNeg = E.length := nI_clamp (by omega)
  refine nX12_unit _ _ _ (bX12_unit_0 _ _ _ ⟨M.o, _, M.r28, M.k28, ?_⟩)
  rw [L.1, nI_pred, ck, t1, M.n28, nI_lit 3, nI_lit 6, nI_leI (by omega) (by decide), nI_ltI (by omega) (by decide)]
  refine ⟨vp_in_nI (by omega) (by decide), fun q => b36 1 (Or.inl ⟨rfl, tb.mp (Or.inl q)⟩), fun q => ⟨vp_in_nI (by omega) (by decide), fun q6 => b36 0 (Or.inr ⟨rfl, ?_⟩), fun q6 => b36 1 (Or.inl ⟨rfl, tb.mp (Or.inr (by omega))⟩)⟩⟩
  have : ¬ bnd (E.headD 0) ≤ 3 := fun z => by have := tb.mpr z; omega
  omega
end

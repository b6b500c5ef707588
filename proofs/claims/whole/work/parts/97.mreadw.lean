/-! ===== the reference's reader: else, a mark, a whole wording ===== -/
section
variable {h h' : zH} {Q : Option Value → zH → Prop} {n i p m u w own lim rb V N : Nat} {bs : Nat → Nat} {c : Nat → zOp} {K : zKs} {E : List Nat} {I : List (Nat × Bool)} {e : Nat × Nat}
theorem opM_j {x a b : Int32} (h : opM x a b (3, 0, 0)) {t : Nat} : opM x (nI t) b (3, 0, t) := by
  have x5 : x = 5 := by
    unfold opM at h
    rcases h with h | h | h | h | h | h | h | h | h | h | h | h | h | h | h | h | h | h
    all_goals first | exact h.2.1 | exact absurd (show (3 : Nat) = _ from h.1) (by decide)
  exact Or.inr (Or.inr (Or.inr (Or.inr (Or.inl ⟨rfl, x5, rfl⟩))))
/-- a jump's end is laid -/
theorem e12_patch {Q0 : zH → Prop} {k j : Nat} {v0 : Int32} (M : mLay h) (h32 : gI h 84 32 = nI p) (hp : p < 48) (h97 : aI h 97 p = v0) (h37 : gI h 84 37 = nI (k + 1)) (hk : k < 8) (h104 : aI h 104 k = nI j) (hj : j < 640)
    (H : ∀ h', mFw p h h' → fr [100, 105] [] h h' → aI h' 100 (640 * p + j) = v0 → (∀ q, q ≠ 640 * p + j → aI h' 100 q = aI h 100 q) → aI h' 105 k = 1 → (∀ q, q ≠ k → aI h' 105 q = aI h 105 q) → Q0 h') :
    (∃ a12 : Nat, gR h 84 24 = some a12 ∧ (∃ a13 : Nat, gR h 84 30 = some a13 ∧ (iK h a13 0 ∧ (vp_in ((gI h 84 37) - (1 : Int32)) (aN h a13) ∧ (∃ a16 : Nat, gR h 84 21 = some a16 ∧ (iK h a16 0 ∧ (vp_in (gI h 84 32) (aN h a16) ∧ (iK h a12 0 ∧ (vp_in (((640 : Int32) * (gI h 84 32)) + (aI h a13 ((gI h 84 37) - (1 : Int32)).toNatClampNeg)) (aN h a12) ∧ (∀ h21 : zH, h21 = (pI h a12 (((640 : Int32) * (gI h 84 32)) + (aI h a13 ((gI h 84 37) - (1 : Int32)).toNatClampNeg)).toNatClampNeg (aI h a16 (gI h 84 32).toNatClampNeg)) → (∃ a26 : Nat, gR h21 84 31 = some a26 ∧ (iK h21 a26 0 ∧ (vp_in ((gI h21 84 37) - (1 : Int32)) (aN h21 a26) ∧ (∀ h29 : zH, h29 = (pI h21 a26 ((gI h21 84 37) - (1 : Int32)).toNatClampNeg (1 : Int32)) → Q0 h29)))))))))))))) := by
  have cp : (nI p).toNatClampNeg = p := nI_clamp (by omega)
  have ck : (nI k).toNatClampNeg = k := nI_clamp (by omega)
  have cj : (nI (640 * p + j)).toNatClampNeg = 640 * p + j := nI_clamp (by omega)
  refine ⟨_, M.r24, _, M.r30, M.k30, ?_⟩
  rw [h32, h37, nI_pred, cp, ck, h104, M.n30, ix640, cj]
  refine ⟨vp_in_nI hk (by decide), _, M.r21, M.k21, ?_⟩
  rw [h97, M.n21, M.n24]
  refine ⟨vp_in_nI hp (by decide), M.k24, vp_in_nI (by omega) (by decide), fun h21 e21 => ?_⟩
  have F21 : fr [100, 105] [] h h21 := by rw [e21]; exact fr_pI (by simp)
  have M21 : mLay h21 := M.fr F21 (by decide)
  refine ⟨_, M21.r31, M21.k31, ?_⟩
  rw [F21.gi (by simp), h37, nI_pred, ck, M21.n31]
  refine ⟨vp_in_nI hk (by decide), fun h29 e29 => ?_⟩
  have F29 : fr [100, 105] [] h21 h29 := by rw [e29]; exact fr_pI (by simp)
  have FF := F21.tr F29
  have ne : ∀ q, q ≠ 640 * p + j → aI h29 100 q = aI h 100 q := fun q hq => by rw [e29, aI_pI_n (Or.inl (by decide)), e21, aI_pI_n (Or.inr hq)]
  refine H h29 ⟨FF.mo (by simp) (by simp), fun q _ => ⟨by rw [FF.i (by simp)], by rw [FF.i (by simp)]⟩, fun q hq => ⟨by rw [FF.i (by simp)], ne q (by omega), by rw [FF.i (by simp)]⟩⟩ FF ?_ ne ?_ (fun q hq => ?_)
  · rw [e29, aI_pI_n (Or.inl (by decide)), e21]; exact aI_pI_s ⟨_, M.k24⟩
  · rw [e29]; exact aI_pI_s ⟨_, M21.k31⟩
  · rw [e29, aI_pI_n (Or.inr hq), e21, aI_pI_n (Or.inl (by decide))]
theorem l12_goesOn (hp : p < 48) (hm : m ≤ 640) : ∀ (I : List (Nat × Bool)) (h : zH), I.length ≤ 7 → (∀ j b, (j, b) ∈ I → j < m ∧ (b = true → c j = (3, 0, 0))) → mRd h n bs i p own lim m c u I.length → mIf h I →
    (∀ s', sEl n bs I m c i u = .inr s' → ∀ h' x, x = (if s'.1 = 4 then (0 : Int32) else 1) → mFw p h h' → mSt h' n bs p own lim s' → Q (some (.int x)) h') →
    (∀ e, sEl n bs I m c i u = .inl e → ∀ h', mFw p h h' → mLo h' n bs e → Q (some (.int 0)) h') → zX mX12_goesOn 0 [.ref 84] [] h Q
  | [], h, _, _, R, J, H1, _ => by
    refine bX12_goesOn_0 _ _ _ ⟨R.1.1.o, br_t (by rw [J.1]; decide +kernel) (H1 _ rfl h 0 rfl mFg.rf ⟨?_, J, fun z => ?_⟩)⟩
    · rw [wth_4, ard]; exact R
    · rcases z with z | z
      · exact absurd (show (4 : Nat) = 1 from z) (by decide)
      · exact absurd (show (4 : Nat) = 2 from z) (by decide)
  | (j, b) :: I, h, hI, hb, R, J, H1, H2 => by
    have M := R.1.1
    have lI : ((j, b) :: I).length = I.length + 1 := rfl
    rw [lI] at hI
    have ck : (nI I.length).toNatClampNeg = I.length := nI_clamp (by omega)
    have g37 : gI h 84 37 = nI (I.length + 1) := J.1
    have a104 : aI h 104 I.length = nI j := J.2.1.1
    have a105 : aI h 105 I.length = nI (if b = true then 0 else 1) := J.2.1.2
    have hj := (hb j b List.mem_cons_self).1
    refine bX12_goesOn_0 _ _ _ ⟨M.o, ?_⟩
    rw [g37]
    refine br_f (nI_nle (Nat.succ_pos _) (by omega)) ⟨_, M.r31, M.k31, ?_⟩
    rw [nI_pred, ck, a105, M.n31]
    refine ⟨vp_in_nI (by omega) (by decide), ?_⟩
    cases b with
    | false =>
      rw [sEl] at H1 H2
      refine br_f (by decide +kernel) (fun h38 e38 h41 e41 => ?_)
      have F38 : fr [] [(84, 37)] h h38 := by rw [e38]; exact fr_pF (by simp) M.o rfl rfl
      have M38 : mLay h38 := M.fr F38 (by decide)
      have F41 : fr [] [(84, 35)] h38 h41 := by rw [e41]; exact fr_pF (by simp) M38.o rfl rfl
      have W : mFw p h h41 := (mFg.of F38 (by decide) (by decide) (by decide)).tr (mFg.of F41 (by decide) (by decide) (by decide))
      have R38 := R.fr F38 (by decide) (by decide) (by decide)
      have i41 : ∀ r, aI h41 r = aI h38 r := fun r => by rw [e41]; exact funext fun i => aI_pF
      have R41 : mRd h41 n bs i p own lim m c u I.length := by
        obtain ⟨P6', gd6, w1, w2, w3, w4, w5, w6, w7⟩ := R38
        exact ⟨P6'.fr F41 (by simp) (by decide) (by simp) (by decide), gd6.fr F41 (by simp), by rw [F41.gi (by simp)]; exact w1, by rw [F41.gi (by simp)]; exact w2, by rw [F41.gi (by simp)]; exact w3, by rw [i41]; exact w4, by rw [e41, gI_pF_s M38.o (by decide), w5, lI, nI_pred], by rw [i41]; exact w6, fun j hj => by rw [i41, i41, i41]; exact w7 j hj⟩
      have J41 : mIf h41 I := ⟨by rw [F41.gi (by simp), e38, gI_pF_s M.o (by decide)], by rw [F41.i (by simp), F41.i (by simp), F38.i (by simp), F38.i (by simp)]; exact J.2.2⟩
      exact l12_goesOn hp hm I h41 (by omega) (fun j' b' hb' => hb j' b' (List.mem_cons_of_mem _ hb')) R41 J41 (fun s' es h' x ex F' S' => H1 s' es h' x ex (W.tr F') S') (fun e ee h' F' L' => H2 e ee h' (W.tr F') L')
    | true =>
      have hc := (hb j true List.mem_cons_self).2 rfl
      rw [sEl] at H1 H2
      refine br_t (by decide +kernel) (s12_isWord (k := 8) R.1 (by decide) wI8 (fun q => ⟨_, rfl, M.o, s12_must R.1 (Or.inr rfl) (fun _ _ h10 F10 P10 => ⟨rfl, P10.1.o, ?_⟩) (fun _ z => absurd z (by decide +kernel)) (fun g => absurd R.2.1 g)⟩) (fun q => ⟨_, rfl, M.o, s12_must R.1 (Or.inl rfl) (fun _ z => absurd z (by decide +kernel)) (fun _ _ h10 F10 E10 => ⟨rfl, ?_⟩) (fun g => absurd R.2.1 g)⟩))
      · have R10 := mRd_to R F10 P10 (R.2.1.fr F10 (by simp)) (by decide) (by decide)
        have J10 := J.fr F10 (by simp) (by simp) (by simp)
        refine e12_patch (k := I.length) (j := j) P10.1 R10.2.2.1 hp R10.2.2.2.2.2.2.2.1 J10.1 (by omega) J10.2.1.1 (by omega) (fun h29 W29 F29 p1 p2 p3 p4 => ?_)
        have M29 := P10.1.fr F29 (by decide)
        obtain ⟨P6', gd6, w1, w2, w3, w4, w5, w6, w7⟩ := R10
        have R29 : mRd h29 n bs (i + 1) p own lim m (pE c j (3, 0, m)) u (I.length + 1) := by
          refine ⟨P6'.fr F29 (by simp) (by decide) (by simp) (by decide), gd6.fr F29 (by simp), by rw [F29.gi (by simp)]; exact w1, by rw [F29.gi (by simp)]; exact w2, by rw [F29.gi (by simp)]; exact w3, by rw [F29.i (by simp)]; exact w4, by rw [F29.gi (by simp)]; exact w5, by rw [F29.i (by simp)]; exact w6, fun k hk => ?_⟩
          rw [F29.i (k := 99) (by simp), F29.i (k := 101) (by simp)]
          unfold pE
          by_cases z : k = j
          · rw [if_pos z, z, p1]
            have := w7 j hj
            rw [hc] at this
            exact opM_j this
          · rw [if_neg z, p2 _ (by omega)]
            exact w7 k hk
        refine s12_isGood M29 (fun _ => ⟨_, rfl, Or.inr rfl, ?_⟩) (fun g => absurd R29.2.1 g)
        rw [if_pos q] at H1
        refine H1 _ rfl h29 1 rfl ((mFg.of F10 (by decide) (by decide) (by decide)).tr W29) ⟨?_, ⟨by rw [F29.gi (by simp)]; exact J10.1, ⟨by rw [F29.i (by simp)]; exact J10.2.1.1, p3.trans rfl⟩, ?_⟩, fun z => ?_⟩
        · have : wth (0, [], (j, false) :: I, (m, pE c j (3, 0, m)), (i + 1, u)) = I.length + 1 := by
            rw [wth_0, ard, List.length_cons]; omega
          rw [this]
          exact R29
        · exact ifR_c J10.2.2 (fun k hk => ⟨by rw [F29.i (by simp)], p4 k (by omega)⟩)
        · rcases z with z | z
          · exact absurd (show (0 : Nat) = 1 from z) (by decide)
          · exact absurd (show (0 : Nat) = 2 from z) (by decide)
      · have L10 : mLo h10 n bs (mp n bs i) := ⟨⟨i, R.1.fr F10 (by simp) (by decide) (by simp) (by decide)⟩, E10⟩
        refine ⟨L10.l.o, e12_patch (k := I.length) (j := j) L10.l (by rw [F10.gi (by simp)]; exact R.2.2.1) hp rfl (by rw [F10.gi (by simp)]; exact g37) (by omega) (by rw [F10.i (by simp)]; exact a104) (by omega) (fun h29 W29 F29 p1 p2 p3 p4 => ?_)⟩
        have L29 := L10.fr F29 (by simp) (by decide) (by decide)
        rw [if_neg q] at H2
        exact s12_isGood L29.l (fun g => absurd g L29.ng) (fun _ => ⟨_, rfl, Or.inl rfl, H2 _ rfl h29 ((mFg.of F10 (by decide) (by decide) (by decide)).tr W29) L29⟩)
/-- a mark -/
theorem e12_readMark (O : kyO K) (hp : p < 48) (ho : own < 8) (hm : u ≠ lim → m < 640) (hu : u ≤ lim) (hl : lim ≤ 80) (A : mKy h rb K) (S : mSt h n bs p own lim (0, [], I, (m, c), (i, u)))
    (H1 : ∀ s', sMk n bs K own lim I m c i u = .inr s' → ∀ h', mFu p h h' → mSt h' n bs p own lim s' → Q none h')
    (H2 : ∀ e, sMk n bs K own lim I m c i u = .inl e → ∀ h', mFu p h h' → mLo h' n bs e → Q none h') : zC mX12_readMark [.ref 84] h Q := by
  obtain ⟨R, J, -⟩ := S
  dsimp only at R J
  rw [wth_0, ard, Nat.zero_add] at R
  have P := R.1
  have M := P.1
  have o3 := O.1.1
  have o4 := O.2.1.1
  have o8 := O.2.2.1
  have b31 := (tk_k (n := n) (bs := bs) i).1
  have kk := mkk_lt (k := (tk n bs i).1) (by omega)
  unfold sMk at H1 H2
  simp only [] at H1 H2
  have good : m < 640 → ∀ (o : zOp) (i' : Nat) (h0 h1 : zH) (x a b : Int32), mRd h0 n bs i p own lim m c (u + 1) I.length → mIf h0 I → mFu p h h0 → fr [] YM h0 h1 → mPs h1 n bs i' → mGd h1 → opM x a b o → (∀ h', mFu p h h' → mSt h' n bs p own lim (3, [], I, (m + 1, pE c m o), (i', u + 1)) → Q none h') → zC mX12_emit [.ref 84, .int x, .int a, .int b] h1 (fun r0 h5 => r0 = none ∧ (Q none h5)) := fun hm o i' h0 h1 x a b R0 J0 F0 G1 P1 g1 hop fin => by
    have R1 := mRd_to R0 G1 P1 g1 (by decide) (by decide)
    refine e12_emit R1 hp hm hop (fun h5 F5 G5 R5 => ⟨rfl, fin h5 (F0.tr ((mFg.of G1 (by decide) (by decide) (by decide)).tr F5)) ⟨?_, ?_, fun z => ?_⟩⟩)
    · rw [wth_3, ard, Nat.zero_add]; exact R5
    · exact (J0.fr G1 (by simp) (by simp) (by simp)).fr G5 (by simp) (by simp) (by simp)
    · rcases z with z | z
      · exact absurd (show (3 : Nat) = 1 from z) (by decide)
      · exact absurd (show (3 : Nat) = 2 from z) (by decide)
  have bad : m < 640 → ∀ (e : Nat × Nat) (h0 h1 : zH) (x a b : Int32), mRd h0 n bs i p own lim m c (u + 1) I.length → mFu p h h0 → fr [] YM h0 h1 → mLo h1 n bs e → (∀ h', mFu p h h' → mLo h' n bs e → Q none h') → zC mX12_emit [.ref 84, .int x, .int a, .int b] h1 (fun r0 h5 => r0 = none ∧ (Q none h5)) := fun hm e h0 h1 x a b R0 F0 G1 L1 fin =>
    e12_emit0 L1 (by rw [G1.gi (by simp)]; exact R0.2.2.1) hp (by rw [G1.i (by simp)]; exact R0.2.2.2.2.2.2.2.1) hm (fun h5 F5 L5 => ⟨rfl, fin h5 (F0.tr ((mFg.of G1 (by decide) (by decide) (by decide)).tr F5)) L5⟩)
  -- a mark that can stand there
  have b62 : ((tk n bs i).1 = 20 ∨ (tk n bs i).1 = 9 ∨ (tk n bs i).1 = 10 ∨ (tk n bs i).1 = 11 ∨ (tk n bs i).1 = 13) → zX mX12_readMark 62 [.ref 84, .float 0, .float 0, .float 0, .float 0] [] h Q := fun hk => by
    refine bX12_readMark_62 _ _ _ ⟨M.o, s12_isGood M (fun _ => ⟨_, rfl, br_f (by decide +kernel) ⟨M.o, e12_counts R hp hu hl (fun ne h6 F6 G6 R6 => ⟨_, rfl, br_f (by decide +kernel) ⟨R6.1.1.o, ?_⟩⟩) (fun z h6 F6 L6 => ⟨_, rfl, br_t rfl ?_⟩)⟩⟩) (fun g => absurd R.2.1 g)⟩
    · have A6 := A.fr G6 (by decide) (by simp)
      have J6 := J.fr G6 (by simp) (by simp) (by simp)
      have P6 := R6.1
      have M6 := P6.1
      rw [nI_lit 2, P6.2.2.tk b31 2 (by decide), kk.2.2.1]
      refine ⟨fun q => ?_, fun n20 => ?_⟩
      · rw [if_pos q, if_neg ne] at H1 H2
        refine s12_nameHere P6 A6 O ⟨_, rfl, M6.o, s12_told P6 R6.2.1 (by omega) (fun h3 v ev F3 P3 g3 => ⟨_, rfl, P3.1.o, ?_⟩) (fun h3 e v ev F3 L3 hv => ⟨_, rfl, L3.l.o, ?_⟩)⟩
        · rw [ev] at H1
          exact good (hm ne) (12, 0, v + 1) (i + 1) h6 h3 _ _ _ R6 J6 F6 F3 P3 g3 (Or.inr (Or.inr (Or.inr (Or.inr (Or.inr (Or.inl ⟨rfl, rfl, nI_1 v, Nat.succ_pos v⟩)))))) (fun h' F' S' => H1 _ rfl h' F' S')
        · rw [ev] at H2
          exact bad (hm ne) e h6 h3 _ _ _ R6 F6 F3 L3 (fun h' F' S' => H2 _ rfl h' F' S')
      · -- the rest, behind its word
        have t134 : ∀ (x19 x22 s0 : Int32), ((x19 = 1 ∧ (tk n bs i).1 = 10) ∨ (x19 = 0 ∧ (tk n bs i).1 ≠ 10)) → ((x22 = 1 ∧ (tk n bs i).1 = 9) ∨ (x22 = 0 ∧ (tk n bs i).1 ≠ 9)) → ((s0 = 9 ∧ (tk n bs i).1 = 11) ∨ (s0 = 10 ∧ (tk n bs i).1 ≠ 11)) → zX mX12_readMark 134 [.ref 84, .float 0, .int x19, .int x22, .float 0] [.int s0] h6 Q := fun x19 x22 s0 h19 h22 hs0 => by
          refine bX12_readMark_134 _ _ _ _ _ _ ⟨M6.o, s12_goOnT P6 (fun h2 F2 P2 => ⟨rfl, ?_⟩)⟩
          have G2 : fr [] YM h6 h2 := F2.mo (by simp) (by simp)
          have g2 := R6.2.1.fr F2 (by simp)
          have A2 := A6.fr F2 (by decide) (by simp)
          have M2 := P2.1
          have h33 : gI h2 84 33 = nI own := by rw [F2.gi (by simp)]; exact R6.2.2.2.1
          rw [if_neg n20] at H1 H2
          rcases h19 with ⟨rfl, q⟩ | ⟨rfl, n10⟩
          · rw [if_neg (by omega), if_pos q, if_neg ne] at H1 H2
            refine br_f (by decide +kernel) ⟨M2.o, s12_other P2 A2 O g2 h33 ho (fun h3 v ev F3 P3 g3 => ⟨_, rfl, P3.1.o, ?_⟩) (fun h3 e v ev F3 L3 hv => ⟨_, rfl, L3.l.o, ?_⟩)⟩
            · rw [ev] at H1
              exact good (hm ne) (13, 0, v) (i + 2) h6 h3 _ _ _ R6 J6 F6 (G2.tr F3) P3 g3 (Or.inr (Or.inr (Or.inr (Or.inr (Or.inr (Or.inr (Or.inr (Or.inl ⟨rfl, rfl, rfl⟩)))))))) (fun h' F' S' => H1 _ rfl h' F' S')
            · rw [ev] at H2
              exact bad (hm ne) e h6 h3 _ _ _ R6 F6 (G2.tr F3) L3 (fun h' F' S' => H2 _ rfl h' F' S')
          · refine br_t rfl ?_
            rcases h22 with ⟨rfl, q⟩ | ⟨rfl, n9⟩
            · rw [if_pos q, if_neg ne] at H1
              exact br_f (by decide +kernel) ⟨M2.o, good (hm ne) (12, 0, 0) (i + 1) h6 h2 _ _ _ R6 J6 F6 G2 P2 g2 (Or.inr (Or.inr (Or.inr (Or.inr (Or.inr (Or.inr (Or.inl ⟨rfl, rfl, rfl⟩))))))) (fun h' F' S' => H1 _ rfl h' F' S')⟩
            · rw [if_neg n9, if_neg n10, if_pos (show (tk n bs i).1 = 11 ∨ (tk n bs i).1 = 13 by omega), if_neg ne] at H1 H2
              refine br_t rfl ⟨M2.o, s12_streetBehind P2 A2 O g2 (fun h3 r er F3 P3 g3 => ⟨_, rfl, P3.1.o, ?_⟩) (fun h3 e x er F3 L3 => ⟨_, rfl, L3.l.o, ?_⟩)⟩
              · rw [er] at H1
                refine good (hm ne) (if (tk n bs i).1 = 11 then 14 else 15, r.2, 0) r.1 h6 h3 _ _ _ R6 J6 F6 (G2.tr F3) P3 g3 ?_ (fun h' F' S' => H1 _ rfl h' F' S')
                rcases hs0 with ⟨rfl, q⟩ | ⟨rfl, q⟩
                · rw [if_pos q]; exact Or.inr (Or.inr (Or.inr (Or.inr (Or.inr (Or.inr (Or.inr (Or.inr (Or.inl ⟨rfl, rfl, rfl⟩))))))))
                · rw [if_neg q]; exact Or.inr (Or.inr (Or.inr (Or.inr (Or.inr (Or.inr (Or.inr (Or.inr (Or.inr (Or.inl ⟨rfl, rfl, rfl⟩)))))))))
              · rw [er] at H2
                exact bad (hm ne) e h6 h3 _ _ _ R6 F6 (G2.tr F3) L3 (fun h' F' S' => H2 _ rfl h' F' S')
        have t3 : ∀ (x19 x22 : Int32), ((x19 = 1 ∧ (tk n bs i).1 = 10) ∨ (x19 = 0 ∧ (tk n bs i).1 ≠ 10)) → ((x22 = 1 ∧ (tk n bs i).1 = 9) ∨ (x22 = 0 ∧ (tk n bs i).1 ≠ 9)) → zC mX12_isWord [.ref 84, .long (1836020596 : Int64)] h6 (fun r0 h24 => ∃ x25 : Int32, r0 = some (.int x25) ∧ ((x25 = 0 → (zX mX12_readMark 134 [.ref 84, .float 0, .int x19, .int x22, .float 0] [.int (10 : Int32)] h24 Q)) ∧ (¬ (x25 = 0) → (zX mX12_readMark 134 [.ref 84, .float 0, .int x19, .int x22, .float 0] [.int (9 : Int32)] h24 Q)))) := fun x19 x22 h19 h22 =>
          s12_isWord (k := 11) P6 (by decide) wI11 (fun q => ⟨_, rfl, br_f (by decide +kernel) (t134 x19 x22 9 h19 h22 (Or.inl ⟨rfl, q⟩))⟩) (fun q => ⟨_, rfl, br_t rfl (t134 x19 x22 10 h19 h22 (Or.inr ⟨rfl, q⟩))⟩)
        have t2 : ∀ (x19 : Int32), ((x19 = 1 ∧ (tk n bs i).1 = 10) ∨ (x19 = 0 ∧ (tk n bs i).1 ≠ 10)) → zC mX12_isWord [.ref 84, .long (422725119595 : Int64)] h6 (fun r0 h21 => ∃ x22 : Int32, r0 = some (.int x22) ∧ (oK h21 84 12 ∧ (zC mX12_isWord [.ref 84, .long (1836020596 : Int64)] h21 (fun r0 h24 => ∃ x25 : Int32, r0 = some (.int x25) ∧ ((x25 = 0 → (zX mX12_readMark 134 [.ref 84, .float 0, .int x19, .int x22, .float 0] [.int (10 : Int32)] h24 Q)) ∧ (¬ (x25 = 0) → (zX mX12_readMark 134 [.ref 84, .float 0, .int x19, .int x22, .float 0] [.int (9 : Int32)] h24 Q))))))) := fun x19 h19 =>
          s12_isWord (k := 9) P6 (by decide) wI9 (fun q => ⟨_, rfl, M6.o, t3 x19 1 h19 (Or.inl ⟨rfl, q⟩)⟩) (fun q => ⟨_, rfl, M6.o, t3 x19 0 h19 (Or.inr ⟨rfl, q⟩)⟩)
        exact s12_isWord (k := 10) P6 (by decide) wI10 (fun q => ⟨_, rfl, M6.o, t2 1 (Or.inl ⟨rfl, q⟩)⟩) (fun q => ⟨_, rfl, M6.o, t2 0 (Or.inr ⟨rfl, q⟩)⟩)
    · refine H2 (mp n bs i) ?_ h6 F6 L6
      rcases hk with q | q | q | q | q
      · rw [if_pos q, if_pos z]
      · rw [if_neg (by omega), if_pos q, if_pos z]
      · rw [if_neg (by omega), if_neg (by omega), if_pos q, if_pos z]
      · rw [if_neg (by omega), if_neg (by omega), if_neg (by omega), if_pos (Or.inl q), if_pos z]
      · rw [if_neg (by omega), if_neg (by omega), if_neg (by omega), if_pos (Or.inr q), if_pos z]
  have b45 : ∀ s0 : Int32, (s0 = 1 ∧ ((tk n bs i).1 = 9 ∨ (tk n bs i).1 = 10 ∨ (tk n bs i).1 = 11 ∨ (tk n bs i).1 = 13)) ∨ (s0 = 0 ∧ (tk n bs i).1 ≠ 9 ∧ (tk n bs i).1 ≠ 10 ∧ (tk n bs i).1 ≠ 11 ∧ (tk n bs i).1 ≠ 13) → zX mX12_readMark 45 [.ref 84, .float 0, .float 0, .float 0, .float 0] [.int s0] h Q := fun s0 hs0 => by
    refine bX12_readMark_45 _ _ _ _ ⟨M.o, ?_⟩
    rw [nI_lit 2, P.2.2.tk b31 2 (by decide), kk.2.2.1]
    refine ⟨fun q => b62 (Or.inl q), fun n20 => ?_⟩
    rcases hs0 with ⟨rfl, q⟩ | ⟨rfl, n9, n10, n11, n13⟩
    · exact br_f (by decide +kernel) (b62 (Or.inr q))
    · refine br_t rfl (s12_misplaced P R.2.1 (fun h' F E => ⟨rfl, ?_⟩))
      have M' : mLay h' := M.fr F (by decide)
      rw [if_neg n20, if_neg n9, if_neg n10, if_neg (by omega)] at H2
      exact bX12_readMark_62 _ _ _ ⟨M'.o, s12_isGood M' (fun g => absurd g E.ne) (fun _ => ⟨_, rfl, br_t rfl (H2 _ rfl h' (mFg.of F (by decide) (by decide) (by decide)) ⟨⟨i, P.fr F (by simp) (by decide) (by simp) (by decide)⟩, E⟩)⟩)⟩
  have b40 : ((tk n bs i).1 = 9 ∨ (tk n bs i).1 = 10 ∨ (tk n bs i).1 = 11 ∨ (tk n bs i).1 = 13) → zX mX12_readMark 40 [.ref 84, .float 0, .float 0, .float 0, .float 0] [] h Q := fun q => bX12_readMark_40 _ _ _ (b45 1 (Or.inl ⟨rfl, q⟩))
  exact nX12_readMark _ _ _ (bX12_readMark_0 _ _ _ ⟨M.o, s12_isWord (k := 9) P (by decide) wI9 (fun q => ⟨_, rfl, br_f (by decide +kernel) (b40 (Or.inl q))⟩) (fun n9 => ⟨_, rfl, br_t rfl ⟨M.o, s12_isWord (k := 10) P (by decide) wI10 (fun q => ⟨_, rfl, br_f (by decide +kernel) (b40 (Or.inr (Or.inl q)))⟩) (fun n10 => ⟨_, rfl, br_t rfl ⟨M.o, s12_isWord (k := 11) P (by decide) wI11 (fun q => ⟨_, rfl, br_f (by decide +kernel) (b40 (Or.inr (Or.inr (Or.inl q))))⟩) (fun n11 => ⟨_, rfl, br_t rfl ⟨M.o, s12_isWord (k := 13) P (by decide) wI13 (fun q => ⟨_, rfl, br_f (by decide +kernel) (b40 (Or.inr (Or.inr (Or.inr q))))⟩) (fun n13 => ⟨_, rfl, br_t rfl (b45 0 (Or.inr ⟨rfl, n9, n10, n11, n13⟩))⟩)⟩⟩)⟩⟩)⟩⟩)⟩)
theorem sMk_ph {s' : zPs} (h : sMk n bs K own lim I m c i u = .inr s') : s'.1 = 3 ∧ s'.2.1 = [] := by
  unfold sMk at h
  simp only [] at h
  repeat' split at h
  all_goals first | (cases h; exact ⟨rfl, rfl⟩) | cases h
theorem sEl_ph : ∀ (I : List (Nat × Bool)) {s' : zPs}, sEl n bs I m c i u = .inr s' → (s'.1 = 0 ∨ s'.1 = 4) ∧ s'.2.1 = []
  | [], s', h => by rw [sEl] at h; cases h; exact ⟨Or.inr rfl, rfl⟩
  | (j, false) :: I, s', h => by rw [sEl] at h; exact sEl_ph I h
  | (j, true) :: I, s', h => by
    rw [sEl] at h
    split at h
    · cases h; exact ⟨Or.inl rfl, rfl⟩
    · cases h
/-- a whole wording -/
theorem l12_readE (O : kyO K) (hp : p < 48) (ho : own < 8) : ∀ (d0 d : Nat) (s : zPs) (h : zH), d ≤ d0 → s.1 = 0 → Ivs K.2.2.1 K.1.1 own lim s → mKy h rb K → mSt h n bs p own lim s → fuelS n bs K own lim d s →
    (∀ h' s', prs n bs K own lim d s = .inr s' → s'.1 = 4 → Ivs K.2.2.1 K.1.1 own lim s' → mFw p h h' → mSt h' n bs p own lim s' → Q none h') →
    (∀ h' e, prs n bs K own lim d s = .inl e → mFw p h h' → mLo h' n bs e → Q none h') → zX mX12_readE 36 [.ref 84, .float 0, .float 0, .int 1] [] h Q := by
  intro d0
  induction d0 with
  | zero =>
    intro d s h hd h0 _ _ _ Z _ _
    have : d = 0 := by omega
    subst this
    exact absurd Z (fun z => fuel_0 (by omega) z)
  | succ d0 ih =>
    intro d s h hd h0 J A S Z H1 H2
    cases d with
    | zero => exact absurd Z (fun z => fuel_0 (by omega) z)
    | succ d =>
      obtain ⟨ph, E, I, ⟨m, c⟩, i, u⟩ := s
      dsimp only at h0
      subst h0
      have n04 : ((0, E, I, (m, c), (i, u)) : zPs).1 ≠ 4 := by show (0 : Nat) ≠ 4; decide
      obtain ⟨jE, jw, ju, jl, jA, jp, j0, j1, j2, j4, j5⟩ := id J
      have jE0 : E = [] := (j0 (Or.inl rfl)).1
      have jm : m ≤ 8 * u := (j0 (Or.inl rfl)).2
      have ju' : u ≤ lim := ju
      have jl' : lim ≤ 80 := jl
      subst jE0
      have M := S.1.1.1
      -- a fault
      have ft : ∀ e h' (x : Int32), prs n bs K own lim (d + 1) (0, [], I, (m, c), (i, u)) = .inl e → mFw p h h' → mLo h' n bs e → zX mX12_readE 36 [.ref 84, .float 0, .float 0, .int x] [] h' Q := fun e h' x es F' L' =>
        bX12_readE_36 _ _ _ _ ⟨L'.l.o, s12_isGood L'.l (fun g => absurd g L'.ng) (fun _ => ⟨_, rfl, br_t rfl (H2 h' e es F' L')⟩)⟩
      refine bX12_readE_36 _ _ _ _ ⟨M.o, s12_isGood M (fun _ => ⟨_, rfl, br_f (by decide +kernel) (br_f (by decide +kernel) ⟨M.o, s12_isWord (k := 6) S.1.1 (by decide) wI6 (fun q => ⟨_, rfl, br_f (by decide +kernel) ⟨M.o, ?_⟩⟩) (fun q => ⟨_, rfl, br_t rfl ⟨M.o, ?_⟩⟩)⟩)⟩) (fun g => absurd S.1.2.1 g)⟩
      · refine e12_readIf O hp ho q J A S Z (fun h' d' s' ld ed p0 J' F' S' => ⟨rfl, ?_⟩) (fun h' e es F' L' => ⟨rfl, ft e h' 1 es F' L'⟩)
        refine ih d' s' h' (by omega) p0 J' (A.fr F'.1 (by decide) (by simp)) S' ?_ (fun h2 s2 e2 p2 J2 F2 S2 => H1 h2 s2 (ed.trans e2) p2 J2 (F'.tr F2) S2) (fun h2 e e2 F2 L2 => H2 h2 e (ed.trans e2) (F'.tr F2) L2)
        unfold fuelS at Z ⊢; rw [ed] at Z; exact Z
      · have es0 := stp_0m (K := K) (own := own) (lim := lim) (E := []) (I := I) (m := m) (c := c) (u := u) q
        refine e12_readMark O hp ho (fun z => by omega) ju' jl' A S (fun s1 es1 h1 F1 S1 => ?_) (fun e ee h1 F1 L1 => ?_)
        · have ph := sMk_ph es1
          rw [es1] at es0
          have ep := prs_s (d := d) n04 es0
          have iv := stp_iv O J n04 es0
          have J1 := iv.1
          rw [ep] at H1 H2 ft
          have Z1 : fuelS n bs K own lim d s1 := by unfold fuelS at Z ⊢; rw [ep] at Z; exact Z
          obtain ⟨ph1, E1, I1, ⟨m1, c1⟩, i1, u1⟩ := s1
          dsimp only at ph
          obtain ⟨rfl, rfl⟩ := ph
          have n34 : ((3, [], I1, (m1, c1), (i1, u1)) : zPs).1 ≠ 4 := by show (3 : Nat) ≠ 4; decide
          cases d with
          | zero => exact absurd Z1 (fun z => fuel_0 n34 z)
          | succ d =>
            obtain ⟨kE, kw, ku, kl, kA, kp, k0, k1, k2, k4, k5⟩ := id J1
            have km : m1 ≤ 8 * u1 := (k0 (Or.inr (Or.inl rfl))).2
            have ku' : u1 ≤ lim := ku
            have kw' : I1.length ≤ 7 := by
              have : wth (3, [], I1, (m1, c1), (i1, u1)) ≤ 7 := kw
              rw [wth_3, ard] at this; omega
            have ai : ∀ j b, (j, b) ∈ I1 → j < m1 ∧ (b = true → c1 j = (3, 0, 0)) := fun j b hb => by
              obtain ⟨H, x0, x1, x2, x3⟩ := kA
              exact ⟨(x3 j b hb).1, fun w => ((x3 j b hb).2 w).1⟩
            have M1 := S1.1.1.1
            have W1 := F1.wd
            have R1 : mRd h1 n bs i1 p own lim m1 c1 u1 I1.length := by
              have := S1.1
              rw [wth_3, ard, Nat.zero_add] at this
              exact this
            refine ⟨rfl, M1.o, s12_isGood M1 (fun _ => ⟨_, rfl, br_f (by decide +kernel) ⟨M1.o, nX12_goesOn _ _ _ (l12_goesOn hp (by omega) I1 h1 kw' ai R1 S1.2.1 (fun s2 es2 h2 x ex F2 S2 => ⟨_, rfl, ?_⟩) (fun e ee h2 F2 L2 => ⟨_, rfl, br_t rfl (ft e h2 0 (prs_e n34 ee) (W1.tr F2) L2)⟩))⟩⟩) (fun g => absurd S1.1.2.1 g)⟩
            have ph2 := sEl_ph I1 es2
            have es2' : stp n bs K own lim (3, [], I1, (m1, c1), (i1, u1)) = .inr s2 := es2
            have ep2 := prs_s (d := d) n34 es2'
            have J2 := (stp_iv O J1 n34 es2').1
            rw [ep2] at H1 H2
            rw [ex]
            rcases ph2.1 with z | z
            · rw [if_neg (by omega)]
              refine br_f (by decide +kernel) (ih d s2 h2 (by omega) z J2 ((A.fr F1.1 (by decide) (by simp)).fr F2.1 (by decide) (by simp)) S2 ?_ (fun h3 s3 e3 p3 J3 F3 S3 => H1 h3 s3 e3 p3 J3 (W1.tr (F2.tr F3)) S3) (fun h3 e e3 F3 L3 => H2 h3 e e3 (W1.tr (F2.tr F3)) L3))
              unfold fuelS at Z1 ⊢; rw [ep2] at Z1; exact Z1
            · rw [if_pos z]
              have M2 := S2.1.1.1
              refine br_t rfl (bX12_readE_36 _ _ _ _ ⟨M2.o, s12_isGood M2 (fun _ => ⟨_, rfl, br_f (by decide +kernel) (br_t rfl (H1 h2 s2 ?_ z J2 (W1.tr F2) S2))⟩) (fun g => absurd S2.1.2.1 g)⟩)
              cases d with
              | zero => rfl
              | succ d => rw [prs, if_pos z]
        · rw [ee] at es0
          exact ⟨rfl, L1.l.o, s12_isGood L1.l (fun g => absurd g L1.ng) (fun _ => ⟨_, rfl, br_t rfl (ft e h1 0 (prs_e n04 es0) F1.wd L1)⟩)⟩
/-- no step yet -/
def c00 : Nat → zOp := fun _ => (0, 0, 0)
theorem s12_readE (O : kyO K) (hp : p < 48) (ho : own < 8) (hl : lim ≤ 80) (P : mPs h n bs i) (hg : mGd h) (A : mKy h rb K) (h34 : gI h 84 34 = nI lim) {d : Nat} (Z : fuelS n bs K own lim d (0, [], [], (0, c00), (i, 0)))
    (H1 : ∀ h' s', prs n bs K own lim d (0, [], [], (0, c00), (i, 0)) = .inr s' → s'.1 = 4 → Ivs K.2.2.1 K.1.1 own lim s' → mFg XEs ((84, 32) :: (84, 33) :: YEs) p h h' → mSt h' n bs p own lim s' → Q none h')
    (H2 : ∀ h' e, prs n bs K own lim d (0, [], [], (0, c00), (i, 0)) = .inl e → mFg XEs ((84, 32) :: (84, 33) :: YEs) p h h' → mLo h' n bs e → Q none h') : zC mX12_readE [.ref 84, .int (nI p), .int (nI own)] h Q := by
  have M := P.1
  have cp : (nI p).toNatClampNeg = p := nI_clamp (by omega)
  refine nX12_readE _ _ _ _ _ (bX12_readE_0 _ _ _ _ _ ⟨M.o, fun h2 e2 h4 e4 => ?_⟩)
  have F2 : fr [] [(84, 32), (84, 33)] h h2 := by rw [e2]; exact fr_pF (by simp) M.o rfl rfl
  have F4 : fr [] [(84, 32), (84, 33)] h2 h4 := by rw [e4]; exact fr_pF (by simp) (F2.o M.o) rfl rfl
  have F24 := F2.tr F4
  have M4 : mLay h4 := M.fr F24 (by decide)
  have a32 : gI h4 84 32 = nI p := by rw [e4, gI_pF_n (Or.inr (by decide)), e2, gI_pF_s M.o (by decide)]
  have a33 : gI h4 84 33 = nI own := by rw [e4, gI_pF_s (F2.o M.o) (by decide)]
  refine ⟨_, M4.r21, M4.k21, ?_⟩
  rw [cp, M4.n21]
  refine ⟨vp_in_nI hp (by decide), fun h9 e9 => ?_⟩
  have F9 : fr [97] [] h4 h9 := by rw [e9]; exact fr_pI (by simp)
  have M9 : mLay h9 := M4.fr F9 (by decide)
  refine ⟨_, M9.r22, M9.k22, ?_⟩
  rw [M9.n22]
  refine ⟨vp_in_nI hp (by decide), fun h15 e15 h19 e19 h23 e23 => ?_⟩
  have F15 : fr [98] [] h9 h15 := by rw [e15]; exact fr_pI (by simp)
  have M15 : mLay h15 := M9.fr F15 (by decide)
  have F19 : fr [] [(84, 35), (84, 37)] h15 h19 := by rw [e19]; exact fr_pF (by simp) M15.o rfl rfl
  have F23 : fr [] [(84, 35), (84, 37)] h19 h23 := by rw [e23]; exact fr_pF (by simp) (F19.o M15.o) rfl rfl
  have F1923 := F19.tr F23
  have FA : fr [97, 98] [(84, 32), (84, 33), (84, 35), (84, 37)] h h23 := (F24.mo (by simp) (by simp)).tr ((F9.mo (by simp) (by simp)).tr ((F15.mo (by simp) (by simp)).tr (F1923.mo (by simp) (by simp))))
  have n97 : ∀ q, q ≠ p → aI h23 97 q = aI h 97 q := fun q hq => by
    rw [F1923.i (by simp), F15.i (by simp), e9, aI_pI_n (Or.inr hq), F24.i (by simp)]
  have n98 : ∀ q, q ≠ p → aI h23 98 q = aI h 98 q := fun q hq => by
    rw [F1923.i (by simp), e15, aI_pI_n (Or.inr hq), F9.i (by simp), F24.i (by simp)]
  have G : mFg XEs ((84, 32) :: (84, 33) :: YEs) p h h23 := ⟨FA.mo (by simp) (by simp), fun q hq => ⟨n97 q hq, n98 q hq⟩, fun k _ => ⟨by rw [FA.i (by simp)], by rw [FA.i (by simp)], by rw [FA.i (by simp)]⟩⟩
  have z0 : (0 : Int32) = nI 0 := rfl
  have S : mSt h23 n bs p own lim (0, [], [], (0, c00), (i, 0)) := by
    refine ⟨⟨P.fr FA (by simp) (by decide) (by simp) (by decide), hg.fr FA (by simp), ?_, ?_, ?_, ?_, ?_, ?_, fun j hj => absurd hj (Nat.not_lt_zero j)⟩, ⟨?_, trivial⟩, fun z => ?_⟩
    · rw [F1923.gi (by simp), F15.gi (by simp), F9.gi (by simp)]; exact a32
    · rw [F1923.gi (by simp), F15.gi (by simp), F9.gi (by simp)]; exact a33
    · rw [FA.gi (by simp)]; exact h34
    · rw [F1923.i (by simp), e15]; exact aI_pI_s ⟨_, M9.k22⟩
    · rw [e23, gI_pF_n (Or.inr (by decide)), e19, gI_pF_s M15.o (by decide)]; rfl
    · rw [F1923.i (by simp), F15.i (by simp), e9]; exact aI_pI_s ⟨_, M4.k21⟩
    · rw [e23, gI_pF_s (F19.o M15.o) (by decide)]; rfl
    · rcases z with z | z
      · exact absurd (show (0 : Nat) = 1 from z) (by decide)
      · exact absurd (show (0 : Nat) = 2 from z) (by decide)
  have W : ∀ h', mFw p h23 h' → mFg XEs ((84, 32) :: (84, 33) :: YEs) p h h' := fun h' F => G.tr (F.mo (by decide) (by decide))
  exact l12_readE O hp ho d d _ h23 (Nat.le_refl d) rfl (Ivs_0 hl) (A.fr FA (by decide) (by simp)) S Z (fun h' s' es p4 J' F' S' => H1 h' s' es p4 J' (W h' F') S') (fun h' e es F' L' => H2 h' e es (W h' F') L')
end

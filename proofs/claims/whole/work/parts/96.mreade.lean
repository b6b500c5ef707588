/-! ===== the reference's reader: questions, marks, a whole wording ===== -/
section
variable {h h' : zH} {Q : Option Value → zH → Prop} {n i p m u w own lim rb V N : Nat} {bs : Nat → Nat} {c : Nat → zOp} {K : zKs} {E : List Nat} {I : List (Nat × Bool)} {e : Nat × Nat}
theorem stp_0i (q : (tk n bs i).1 = 6) : stp n bs K own lim (0, E, I, (m, c), (i, u)) = if I.length = 7 then .inl (mp n bs i) else .inr (1, [], I, (m, c), (i + 1, u)) := by
  show (if (tk n bs i).1 = 6 then _ else _) = _
  rw [if_pos q]
theorem stp_0m (q : (tk n bs i).1 ≠ 6) : stp n bs K own lim (0, E, I, (m, c), (i, u)) = sMk n bs K own lim I m c i u := by
  show (if (tk n bs i).1 = 6 then _ else _) = _
  rw [if_neg q]
/-- the jump's place is kept, and put -/
theorem e12_jump {Q0 : zH → Prop} {k : Nat} {v0 : Int32} (M : mLay h) (h32 : gI h 84 32 = nI p) (hp : p < 48) (h97 : aI h 97 p = v0) (h37 : gI h 84 37 = nI k) (hk : k < 8)
    (H : ∀ h', mFw p h h' → fr [104, 105] [(84, 37)] h h' → gI h' 84 37 = nI (k + 1) → aI h' 104 k = v0 → aI h' 105 k = 0 → (∀ j, j ≠ k → aI h' 104 j = aI h 104 j ∧ aI h' 105 j = aI h 105 j) → Q0 h') :
    (∃ a17 : Nat, gR h 84 30 = some a17 ∧ (∃ a18 : Nat, gR h 84 21 = some a18 ∧ (iK h a18 0 ∧ (vp_in (gI h 84 32) (aN h a18) ∧ (iK h a17 0 ∧ (vp_in (gI h 84 37) (aN h a17) ∧ (∀ h23 : zH, h23 = (pI h a17 (gI h 84 37).toNatClampNeg (aI h a18 (gI h 84 32).toNatClampNeg)) → (∃ a27 : Nat, gR h23 84 31 = some a27 ∧ (iK h23 a27 0 ∧ (vp_in (gI h23 84 37) (aN h23 a27) ∧ (∀ h30 : zH, h30 = (pI h23 a27 (gI h23 84 37).toNatClampNeg (0 : Int32)) → (∀ h35 : zH, h35 = (pF h30 84 37 (.int ((gI h30 84 37) + (1 : Int32)))) → Q0 h35)))))))))))) := by
  have cp : (nI p).toNatClampNeg = p := nI_clamp (by omega)
  have ck : (nI k).toNatClampNeg = k := nI_clamp (by omega)
  refine ⟨_, M.r30, _, M.r21, M.k21, ?_⟩
  rw [h32, h37, cp, ck, h97, M.n21, M.n30]
  refine ⟨vp_in_nI hp (by decide), M.k30, vp_in_nI hk (by decide), fun h23 e23 => ?_⟩
  have F23 : fr [104, 105] [(84, 37)] h h23 := by rw [e23]; exact fr_pI (by simp)
  have M23 : mLay h23 := M.fr F23 (by decide)
  have g23 : gI h23 84 37 = nI k := by rw [e23, gI_pI]; exact h37
  refine ⟨_, M23.r31, M23.k31, ?_⟩
  rw [g23, ck, M23.n31]
  refine ⟨vp_in_nI hk (by decide), fun h30 e30 h35 e35 => ?_⟩
  have F30 : fr [104, 105] [(84, 37)] h23 h30 := by rw [e30]; exact fr_pI (by simp)
  have g30 : gI h30 84 37 = nI k := by rw [e30, gI_pI]; exact g23
  rw [g30, nI_1] at e35
  have o30 := F30.o M23.o
  have F35 : fr [104, 105] [(84, 37)] h30 h35 := by rw [e35]; exact fr_pF (by simp) o30 rfl rfl
  have i35 : ∀ r, aI h35 r = aI h30 r := fun r => by rw [e35]; exact funext fun i => aI_pF
  have FF := F23.tr (F30.tr F35)
  refine H h35 (mFg.of FF (by decide) (by decide) (by decide)) FF (by rw [e35, gI_pF_s o30 (by decide)]) ?_ ?_ (fun j hj => ⟨?_, ?_⟩)
  · rw [i35, e30, aI_pI_n (Or.inl (by decide)), e23]; exact aI_pI_s ⟨_, M.k30⟩
  · rw [i35, e30]; exact aI_pI_s ⟨_, M23.k31⟩
  · rw [i35, e30, aI_pI_n (Or.inl (by decide)), e23, aI_pI_n (Or.inr hj)]
  · rw [i35, e30, aI_pI_n (Or.inr hj), e23, aI_pI_n (Or.inl (by decide))]
/-- a question -/
theorem e12_readIf (O : kyO K) (hp : p < 48) (ho : own < 8) {d : Nat} (q6 : (tk n bs i).1 = 6) (J : Ivs K.2.2.1 K.1.1 own lim (0, [], I, (m, c), (i, u))) (A : mKy h rb K) (S : mSt h n bs p own lim (0, [], I, (m, c), (i, u))) (Z : fuelS n bs K own lim (d + 1) (0, [], I, (m, c), (i, u)))
    (H1 : ∀ h' d' s', d' ≤ d → prs n bs K own lim (d + 1) (0, [], I, (m, c), (i, u)) = prs n bs K own lim d' s' → s'.1 = 0 → Ivs K.2.2.1 K.1.1 own lim s' → mFw p h h' → mSt h' n bs p own lim s' → Q none h')
    (H2 : ∀ h' e, prs n bs K own lim (d + 1) (0, [], I, (m, c), (i, u)) = .inl e → mFw p h h' → mLo h' n bs e → Q none h') : zC mX12_readIf [.ref 84] h Q := by
  have n04 : ((0, [], I, (m, c), (i, u)) : zPs).1 ≠ 4 := by show (0 : Nat) ≠ 4; decide
  obtain ⟨R, JI, -⟩ := S
  dsimp only at R JI
  have jw : I.length ≤ 7 := by
    have : wth (0, [], I, (m, c), (i, u)) ≤ 7 := J.2.1
    rw [wth_0, ard] at this; omega
  rw [wth_0, ard, Nat.zero_add] at R
  have P := R.1
  have M := P.1
  have es := stp_0i (K := K) (own := own) (lim := lim) (E := []) (I := I) (m := m) (c := c) (u := u) q6
  refine nX12_readIf _ _ _ (bX12_readIf_0 _ _ _ ⟨M.o, ?_⟩)
  rw [R.2.2.2.2.2.2.1, nI_lit 7, nI_eq (by omega) (by decide)]
  refine ⟨fun q => s12_misplaced P R.2.1 (fun h' F E => ⟨rfl, ?_⟩), fun q => ?_⟩
  · rw [if_pos q] at es
    have M' : mLay h' := M.fr F (by decide)
    have L' : mLo h' n bs (mp n bs i) := ⟨⟨i, P.fr F (by simp) (by decide) (by simp) (by decide)⟩, E⟩
    exact bX12_readIf_13 _ _ _ ⟨M'.o, s12_isGood M' (fun g => absurd g E.ne) (fun _ => ⟨_, rfl, br_t rfl (H2 h' _ (prs_e n04 es) (mFg.of F (by decide) (by decide) (by decide)) L')⟩)⟩
  · rw [if_neg q] at es
    have ep := prs_s (d := d) n04 es
    rw [ep] at H1 H2
    have J1 := (stp_iv O J n04 es).1
    have Z1 : fuelS n bs K own lim d (1, [], I, (m, c), (i + 1, u)) := by unfold fuelS at Z ⊢; rw [ep] at Z; exact Z
    refine bX12_readIf_13 _ _ _ ⟨M.o, s12_isGood M (fun _ => ⟨_, rfl, br_f (by decide +kernel) ⟨M.o, s12_goOnT P (fun h6 F6 P6 => ⟨rfl, P6.1.o, fun h8 e8 => ?_⟩)⟩⟩) (fun g => absurd R.2.1 g)⟩
    have R6 := mRd_to R F6 P6 (R.2.1.fr F6 (by simp)) (by decide) (by decide)
    have F8 : fr [] [(84, 35)] h6 h8 := by rw [e8]; exact fr_pF (by simp) P6.1.o rfl rfl
    have M8 : mLay h8 := P6.1.fr F8 (by decide)
    have i8 : ∀ r, aI h8 r = aI h6 r := fun r => by rw [e8]; exact funext fun i => aI_pF
    have R8 : mRd h8 n bs (i + 1) p own lim m c u (1 + I.length) := by
      obtain ⟨P6', gd6, w1, w2, w3, w4, w5, w6, w7⟩ := R6
      exact ⟨P6'.fr F8 (by simp) (by decide) (by simp) (by decide), gd6.fr F8 (by simp), by rw [F8.gi (by simp)]; exact w1, by rw [F8.gi (by simp)]; exact w2, by rw [F8.gi (by simp)]; exact w3, by rw [i8]; exact w4, by rw [e8, gI_pF_s P6'.1.o (by decide), w5, nI_1, Nat.add_comm], by rw [i8]; exact w6, fun j hj => by rw [i8, i8, i8]; exact w7 j hj⟩
    have JI8 := (JI.fr F6 (by simp) (by simp) (by simp)).fr F8 (by simp) (by simp) (by simp)
    have A8 := (A.fr F6 (by decide) (by simp)).fr F8 (by decide) (by simp)
    have G8 : mFu p h h8 := (mFg.of F6 (by decide) (by decide) (by decide)).tr (mFg.of F8 (by decide) (by decide) (by decide))
    -- behind the condition
    refine nX12_f _ _ _ (bX12_f_0 _ _ _ ⟨M8.o, fun h2 e2 => ?_⟩)
    have F2 : fr [] [(84, 36)] h8 h2 := by rw [e2]; exact fr_pF (by simp) M8.o rfl rfl
    have M2 : mLay h2 := M8.fr F2 (by decide)
    have g2 : gI h2 84 36 = nI 0 := by rw [e2, gI_pF_s M8.o (by decide)]; rfl
    refine e12_push (k := 0) M2 g2 (by decide) (fun h4 F4 g4 a4 b4 ne4 => ⟨rfl, ?_⟩)
    have R4 := (R8.fr F2 (by decide) (by decide) (by decide)).fr F4 (by decide) (by decide) (by decide)
    have JI4 := (JI8.fr F2 (by simp) (by simp) (by simp)).fr F4 (by simp) (by simp) (by simp)
    have A4 := (A8.fr F2 (by decide) (by simp)).fr F4 (by decide) (by simp)
    have G4 : mFu p h h4 := G8.tr ((mFg.of F2 (by decide) (by decide) (by decide)).tr (mFg.of F4 (by decide) (by decide) (by decide)))
    have S4 : mSt h4 n bs p own lim (1, [], I, (m, c), (i + 1, u)) := by
      refine ⟨?_, JI4, fun _ => ⟨g4, a4, trivial⟩⟩
      rw [wth_1, ard, Nat.zero_add]
      exact R4
    show zX mX12_f 14 [.ref 84, .int (if ((1, [], I, (m, c), (i + 1, u)) : zPs).1 = 1 then 1 else 0)] [] h4 _
    refine l12_f O hp ho d (1, [], I, (m, c), (i + 1, u)) h4 (Or.inl rfl) J1 A4 S4 Z1 (fun h10 d' s' ld ed p2 J' sg e1 F' R' JI' => ?_) (fun h10 e ed F' L' => ?_)
    · obtain ⟨ph, E', I', ⟨m', c'⟩, i', u'⟩ := s'
      dsimp only at p2 sg e1 R' JI'
      subst p2
      have n24 : ((2, E', I', (m', c'), (i', u')) : zPs).1 ≠ 4 := by show (2 : Nat) ≠ 4; decide
      obtain ⟨jE, jw2, ju, jl, jA, jp, j0, j1, j2, j4, j5⟩ := id J'
      have jw2' : ard E' + 1 + I'.length ≤ 7 := jw2
      have jm : m' + pnd E' + 1 ≤ 8 * u' := (j2 rfl).1
      have m0 : 0 < m' := (j2 rfl).2
      have ju' : u' ≤ lim := ju
      have jA' : cdI K.2.2.1 K.1.1 own m' c' I' (opd E' + 1) := by
        have : cdI K.2.2.1 K.1.1 own m' c' I' (if (2 : Nat) = 1 then opd E' else if (2 : Nat) = 2 then opd E' + 1 else 0) := jA
        rw [if_neg (by decide), if_pos rfl] at this
        exact this
      have st := stl_i (Nat.le_refl 1) E' m' c' jE (by omega) (by omega) jA'
      generalize eT : stl 1 E' m' c' = T at R' e1 st
      obtain ⟨E1, m1, c1⟩ := T
      dsimp only at R' e1 st
      subst e1
      have m640 : m1 < 640 := by
        have : m1 + 0 = m' + pnd E' := st.2.2.2.1
        omega
      have M' := R'.1.1
      have G10 : mFu p h h10 := G4.tr F'
      refine ⟨rfl, M'.o, s12_isWord (k := 7) R'.1 (by decide) wI7 (fun q7 => ⟨_, rfl, M'.o, s12_must R'.1 (Or.inr rfl) (fun _ _ h15 F15 P15 => ⟨rfl, P15.1.o, ?_⟩) (fun _ z => absurd z (by decide +kernel)) (fun g => absurd R'.2.1 g)⟩) (fun q7 => ⟨_, rfl, M'.o, s12_must R'.1 (Or.inl rfl) (fun _ z => absurd z (by decide +kernel)) (fun _ _ h15 F15 E15 => ⟨rfl, ?_⟩) (fun g => absurd R'.2.1 g)⟩)⟩
      · have R15 := mRd_to R' F15 P15 (R'.2.1.fr F15 (by simp)) (by decide) (by decide)
        have JI15 := JI'.fr F15 (by simp) (by simp) (by simp)
        have ee : stp n bs K own lim (2, E', I', (m', c'), (i', u')) = .inr (0, [], (m1, true) :: I', (m1 + 1, pE c1 m1 (3, 0, 0)), (i' + 1, u')) := by
          rw [stp_2]
          unfold sSg
          simp only [sg]
          rw [if_neg (by omega), if_pos q7, eT]
        have ep2 := prs_s (d := d') n24 ee
        have Jn := (stp_iv O J' n24 ee).1
        refine e12_jump P15.1 R15.2.2.1 hp R15.2.2.2.2.2.2.2.1 JI15.1 (by omega) (fun h35 W35 F35 g37 a104 a105 nej => ?_)
        have M35 := P15.1.fr F35 (by decide)
        have R35 := R15.fr F35 (by decide) (by decide) (by decide)
        refine s12_isGood M35 (fun _ => ⟨_, rfl, br_f (by decide +kernel) ⟨M35.o, e12_emit (o := (3, 0, 0)) R35 hp m640 (Or.inr (Or.inr (Or.inr (Or.inr (Or.inl ⟨rfl, rfl, rfl⟩))))) (fun h44 F44 G44 R44 => ⟨rfl, ?_⟩)⟩⟩) (fun g => absurd R35.2.1 g)
        refine H1 h44 d' _ (by omega) (ed.trans ep2) rfl Jn (G10.wd.tr ((mFg.of F15 (by decide) (by decide) (by decide)).tr (W35.tr F44.wd))) ⟨?_, ⟨?_, ?_⟩, fun z => ?_⟩
        · have : wth (0, [], (m1, true) :: I', (m1 + 1, pE c1 m1 (3, 0, 0)), (i' + 1, u')) = 1 + I'.length := by
            rw [wth_0, ard, List.length_cons]; omega
          rw [this]
          exact R44
        · rw [G44.gi (by simp)]; exact g37
        · have i104 : aI h44 104 = aI h35 104 := G44.i (by simp)
          have i105 : aI h44 105 = aI h35 105 := G44.i (by simp)
          rw [i104, i105]
          exact ⟨⟨a104, a105.trans rfl⟩, ifR_c JI15.2 (fun j hj => nej j (by omega))⟩
        · rcases z with z | z
          · exact absurd (show (0 : Nat) = 1 from z) (by decide)
          · exact absurd (show (0 : Nat) = 2 from z) (by decide)
      · have ee : stp n bs K own lim (2, E', I', (m', c'), (i', u')) = .inl (mp n bs i') := by
          rw [stp_2]
          unfold sSg
          simp only [sg]
          rw [eT, if_neg q7]
          simp only []
          split <;> rfl
        have ep2 := prs_e (d := d') n24 ee
        have L15 : mLo h15 n bs (mp n bs i') := ⟨⟨i', R'.1.fr F15 (by simp) (by decide) (by simp) (by decide)⟩, E15⟩
        refine ⟨L15.l.o, e12_jump L15.l (by rw [F15.gi (by simp)]; exact R'.2.2.1) hp rfl (by rw [F15.gi (by simp)]; exact JI'.1) (by omega) (fun h35 W35 F35 g37 a104 a105 nej => ?_)⟩
        have L35 := L15.fr F35 (by simp) (by decide) (by decide)
        exact s12_isGood L35.l (fun g => absurd g L35.ng) (fun _ => ⟨_, rfl, br_t rfl (H2 h35 _ (ed.trans ep2) (G10.wd.tr ((mFg.of F15 (by decide) (by decide) (by decide)).tr W35)) L35)⟩)
    · have M' := L'.l
      have G10 : mFu p h h10 := G4.tr F'
      obtain ⟨⟨j, Pj⟩, E10⟩ := id L'
      have tail : oK h10 84 12 ∧ (∃ a17 : Nat, gR h10 84 30 = some a17 ∧ (∃ a18 : Nat, gR h10 84 21 = some a18 ∧ (iK h10 a18 0 ∧ (vp_in (gI h10 84 32) (aN h10 a18) ∧ (iK h10 a17 0 ∧ (vp_in (gI h10 84 37) (aN h10 a17) ∧ (∀ h23 : zH, h23 = (pI h10 a17 (gI h10 84 37).toNatClampNeg (aI h10 a18 (gI h10 84 32).toNatClampNeg)) → (∃ a27 : Nat, gR h23 84 31 = some a27 ∧ (iK h23 a27 0 ∧ (vp_in (gI h23 84 37) (aN h23 a27) ∧ (∀ h30 : zH, h30 = (pI h23 a27 (gI h23 84 37).toNatClampNeg (0 : Int32)) → (∀ h35 : zH, h35 = (pF h30 84 37 (.int ((gI h30 84 37) + (1 : Int32)))) → (zC mX12_isGood [.ref 84] h35 (fun r0 h40 => ∃ x41 : Int32, r0 = some (.int x41) ∧ ((x41 = 0 → (Q none h40)) ∧ (¬ (x41 = 0) → (oK h40 84 12 ∧ (zC mX12_emit [.ref 84, .int (5 : Int32), .int (0 : Int32), .int (0 : Int32)] h40 (fun r0 h44 => r0 = none ∧ (Q none h44)))))))))))))))))))) := by
        refine ⟨M'.o, e12_jump M' (by rw [F'.1.gi (by simp)]; exact R4.2.2.1) hp rfl (by rw [F'.1.gi (by simp)]; exact JI4.1) (by omega) (fun h35 W35 F35 _ _ _ _ => ?_)⟩
        have L35 := L'.fr F35 (by simp) (by decide) (by decide)
        exact s12_isGood L35.l (fun g => absurd g L35.ng) (fun _ => ⟨_, rfl, br_t rfl (H2 h35 e ed (G10.wd.tr W35) L35)⟩)
      exact ⟨rfl, M'.o, s12_isWord (k := 7) Pj (by decide) wI7 (fun _ => ⟨_, rfl, M'.o, s12_must Pj (Or.inr rfl) (fun g => absurd g L'.ng) (fun g => absurd g L'.ng) (fun _ => ⟨rfl, tail⟩)⟩) (fun _ => ⟨_, rfl, M'.o, s12_must Pj (Or.inl rfl) (fun g => absurd g L'.ng) (fun g => absurd g L'.ng) (fun _ => ⟨rfl, tail⟩)⟩)⟩
end

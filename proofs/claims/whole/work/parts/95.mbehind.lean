/-! ===== the reference's reader: behind a unit; a condition ===== -/
section
variable {h h' : zH} {Q : Option Value → zH → Prop} {n i p m u w own lim rb V N : Nat} {bs : Nat → Nat} {c : Nat → zOp} {K : zKs} {E : List Nat} {I : List (Nat × Bool)} {e : Nat × Nat}
theorem opM_sg (e : Nat) (h1 : e < 12) (h2 : 4 ≤ e) : opM (nI (eSg e)) 0 0 (e, 0, 0) := by
  have : e = 4 ∨ e = 5 ∨ e = 6 ∨ e = 7 ∨ e = 8 ∨ e = 9 ∨ e = 10 ∨ e = 11 := by omega
  rcases this with rfl | rfl | rfl | rfl | rfl | rfl | rfl | rfl
  · exact Or.inr (Or.inr (Or.inr (Or.inr (Or.inr (Or.inr (Or.inr (Or.inr (Or.inr (Or.inr (Or.inr (Or.inl ⟨rfl, by decide +kernel⟩)))))))))))
  · exact Or.inr (Or.inr (Or.inr (Or.inr (Or.inr (Or.inr (Or.inr (Or.inr (Or.inr (Or.inr (Or.inr (Or.inr (Or.inl ⟨rfl, by decide +kernel⟩))))))))))))
  · exact Or.inr (Or.inr (Or.inr (Or.inr (Or.inr (Or.inr (Or.inr (Or.inr (Or.inr (Or.inr (Or.inl ⟨rfl, by decide +kernel⟩))))))))))
  · exact Or.inr (Or.inr (Or.inr (Or.inr (Or.inr (Or.inr (Or.inr (Or.inr (Or.inr (Or.inr (Or.inr (Or.inr (Or.inr (Or.inl ⟨rfl, by decide +kernel⟩)))))))))))))
  · exact Or.inr (Or.inr (Or.inr (Or.inr (Or.inr (Or.inr (Or.inr (Or.inr (Or.inr (Or.inr (Or.inr (Or.inr (Or.inr (Or.inr (Or.inl ⟨rfl, by decide +kernel⟩))))))))))))))
  · exact Or.inr (Or.inr (Or.inr (Or.inr (Or.inr (Or.inr (Or.inr (Or.inr (Or.inr (Or.inr (Or.inr (Or.inr (Or.inr (Or.inr (Or.inr (Or.inl ⟨rfl, by decide +kernel⟩)))))))))))))))
  · exact Or.inr (Or.inr (Or.inr (Or.inr (Or.inr (Or.inr (Or.inr (Or.inr (Or.inr (Or.inr (Or.inr (Or.inr (Or.inr (Or.inr (Or.inr (Or.inr (Or.inl ⟨rfl, by decide +kernel⟩))))))))))))))))
  · exact Or.inr (Or.inr (Or.inr (Or.inr (Or.inr (Or.inr (Or.inr (Or.inr (Or.inr (Or.inr (Or.inr (Or.inr (Or.inr (Or.inr (Or.inr (Or.inr (Or.inr (⟨rfl, by decide +kernel⟩)))))))))))))))))
theorem bnd_46 : ∀ e, e < 12 → 4 ≤ e → 1 ≤ bnd e ∧ (bnd e = 3 ↔ e = 6) := by decide +kernel
def br1 (r : Nat) : Nat := if r = 0 then 1 else r
/-- the signs that bind at least so are put behind the steps -/
theorem l12_behind {r w0 : Nat} (hp : p < 48) : ∀ (E : List Nat) (m : Nat) (c : Nat → zOp) (h : zH), wfE E → E.length < 118 → ard E + w0 < 100 → m + pnd E ≤ 639 → mRd h n bs i p own lim m c u (ard E + w0) → mIf h I → mPl h E → (∀ h', mFu p h h' → mRd h' n bs i p own lim (stl (br1 r) E m c).2.1 (stl (br1 r) E m c).2.2 u (ard (stl (br1 r) E m c).1 + w0) → mIf h' I → mPl h' (stl (br1 r) E m c).1 → zX mX12_behindUnit 104 [.ref 84, .int (nI r)] [] h' Q) → r ≤ 5 → zX mX12_behindUnit 23 [.ref 84, .int (nI r)] [] h Q
  | [], m, c, h, _, _, _, _, R, J, L, H, _ => by
    have M := R.1.1
    have e0 : (nI (0 : Nat)).toNatClampNeg = 0 := nI_clamp (by decide)
    refine bX12_behindUnit_23 _ _ _ _ ⟨M.o, _, M.r28, M.k28, ?_⟩
    rw [L.1, nI_pred, List.length_nil, e0, L.2.1, M.n28]
    exact ⟨vp_in_nI (by decide) (by decide), br_t (by decide +kernel) (H h mFg.rf R J L)⟩
  | e :: E, m, c, h, hE, hl, hw, hm, R, J, L, H, hr => by
    have M := R.1.1
    have lE : (e :: E).length = E.length + 1 := rfl
    have e12 := hE.1
    rw [lE] at hl
    have ck : (nI (E.length + 1)).toNatClampNeg = E.length + 1 := nI_clamp (by omega)
    have a : aI h 102 (E.length + 1) = nI (eWt e) := L.2.2.1.1
    have a3 : aI h 103 (E.length + 1) = nI (eSg e) := L.2.2.1.2
    have w6 := eWt_le e
    refine bX12_behindUnit_23 _ _ _ _ ⟨M.o, _, M.r28, M.k28, ?_⟩
    rw [L.1, nI_pred, lE, ck, a, M.n28, nI_lit 5, nI_ltI (by decide) (by omega), nI_ltI (by omega) (by omega)]
    refine ⟨vp_in_nI (by omega) (by decide), fun q => ?_, fun q => ⟨vp_in_nI (by omega) (by decide), fun q2 => ?_, fun q2 h8 e8 => ?_⟩⟩
    · have z : e = 3 := by
        refine Decidable.byContradiction fun z => ?_
        rw [eWt_n z] at q
        have := bnd5 e
        omega
      have es : stl (br1 r) (e :: E) m c = (e :: E, m, c) := by
        rw [stl, z, if_neg (by rw [bnd_3]; unfold br1; split <;> omega)]
      have H' := H h mFg.rf
      rw [es] at H'
      exact H' R J L
    · have z : e ≠ 3 := fun z => by rw [z, eWt_3] at q; omega
      rw [eWt_n z] at q2
      have es : stl (br1 r) (e :: E) m c = (e :: E, m, c) := by
        rw [stl, if_neg (by unfold br1; split <;> omega)]
      have H' := H h mFg.rf
      rw [es] at H'
      exact H' R J L
    · have z : e ≠ 3 := fun z => by rw [z, eWt_3] at q; omega
      have e4 : 4 ≤ e := by
        rcases hE.2.2 with y | y | y
        · exact absurd y z
        · omega
        · exact y.1
      have b4 := bnd_46 e e12 e4
      rw [eWt_n z] at q q2
      have es : stl (br1 r) (e :: E) m c = stl (br1 r) E (m + 1) (pE c m (e, 0, 0)) := by
        rw [stl, if_pos (by unfold br1; split <;> omega)]
      rw [es] at H
      have pd : pnd (e :: E) = 1 + pnd E := by rw [pnd, if_pos e4]
      rw [pd] at hm
      have F8 : fr [] [(84, 36)] h h8 := by rw [e8]; exact fr_pF (by simp) M.o rfl rfl
      have M8 : mLay h8 := M.fr F8 (by decide)
      have g8 : gI h8 84 36 = nI (E.length + 1) := by rw [e8, gI_pF_s M.o (by decide)]
      have i8 : ∀ r, aI h8 r = aI h r := fun r => by rw [e8]; exact funext fun i => aI_pF
      have R8 := R.fr F8 (by decide) (by decide) (by decide)
      have J8 := J.fr F8 (by simp) (by simp) (by simp)
      have L8 : mPl h8 E := ⟨g8, by rw [i8]; exact L.2.1, by rw [i8, i8]; exact L.2.2.2⟩
      refine ⟨_, M8.r28, M8.k28, ?_⟩
      rw [g8, ck, i8, a, M8.n28, nI_lit 3, nI_eq (by omega) (by decide), eWt_n z, b4.2]
      refine ⟨vp_in_nI (by omega) (by decide), fun q6 h15 e15 => ?_, fun n6 => ⟨_, M8.r29, M8.k29, ?_⟩⟩
      · have F15 : fr [] [(84, 35)] h8 h15 := by rw [e15]; exact fr_pF (by simp) M8.o rfl rfl
        have M15 : mLay h15 := M8.fr F15 (by decide)
        have i15 : ∀ r, aI h15 r = aI h8 r := fun r => by rw [e15]; exact funext fun i => aI_pF
        obtain ⟨P8, gd8, w1, w2, w3, w4, w5, w6', w7⟩ := R8
        have ar : ard (e :: E) + w0 = ard E + w0 + 1 := by rw [ard, if_pos (Or.inr q6)]; omega
        have R15 : mRd h15 n bs i p own lim m c u (ard E + w0) := ⟨P8.fr F15 (by simp) (by decide) (by simp) (by decide), gd8.fr F15 (by simp), by rw [F15.gi (by simp)]; exact w1, by rw [F15.gi (by simp)]; exact w2, by rw [F15.gi (by simp)]; exact w3, by rw [i15]; exact w4, by rw [e15, gI_pF_s M8.o (by decide), w5, ar, nI_pred], by rw [i15]; exact w6', fun j hj => by rw [i15, i15, i15]; exact w7 j hj⟩
        refine ⟨_, M15.r29, M15.k29, ?_⟩
        rw [F15.gi (by simp), g8, ck, i15, i8, a3, M15.n29]
        refine ⟨vp_in_nI (by omega) (by decide), e12_emit (o := (e, 0, 0)) R15 hp (by omega) (opM_sg e e12 e4) (fun h' F' G' R' => ⟨rfl, ?_⟩)⟩
        exact l12_behind hp E (m + 1) _ h' hE.2.1 (by omega) (by omega) (by omega) R' ((J8.fr F15 (by simp) (by simp) (by simp)).fr G' (by simp) (by simp) (by simp)) ((L8.fr F15 (by simp) (by simp) (by simp)).fr G' (by simp) (by simp) (by simp)) (fun h2 F2 => H h2 ((mFg.of F8 (by decide) (by decide) (by decide)).tr ((mFg.of F15 (by decide) (by decide) (by decide)).tr (F'.tr F2)))) hr
      · have ar : ard (e :: E) = ard E := by rw [ard, if_neg (by omega)]; omega
        rw [ar] at R8 hw
        rw [i8, a3, M8.n29]
        refine ⟨vp_in_nI (by omega) (by decide), e12_emit (o := (e, 0, 0)) R8 hp (by omega) (opM_sg e e12 e4) (fun h' F' G' R' => ⟨rfl, ?_⟩)⟩
        exact l12_behind hp E (m + 1) _ h' hE.2.1 (by omega) (by omega) (by omega) R' (J8.fr G' (by simp) (by simp) (by simp)) (L8.fr G' (by simp) (by simp) (by simp)) (fun h2 F2 => H h2 ((mFg.of F8 (by decide) (by decide) (by decide)).tr (F'.tr F2))) hr
theorem rk_cs (κ : Nat) : (rkT κ = 0 ∧ sgD κ = none) ∨ ∃ s, sgD κ = some (s, rkT κ) ∧ (1 ≤ rkT κ ∧ rkT κ ≤ 5) ∧ eWt s = rkT κ ∧ s ≠ 3 ∧ s ≠ 6 ∧ (rkT κ = 2 → s = 5) ∧ (rkT κ = 1 → s = 4) ∧ (rkT κ ≠ 1 → rkT κ ≠ 2 → 22 ≤ κ ∧ κ < 30 ∧ sgL.getD (κ - 22) 0 = eSg s) := by
  by_cases k1 : κ = 15
  · subst k1; exact Or.inr ⟨5, by decide +kernel⟩
  by_cases k2 : κ = 14
  · subst k2; exact Or.inr ⟨4, by decide +kernel⟩
  by_cases k3 : κ = 25
  · subst k3; exact Or.inr ⟨7, by decide +kernel⟩
  by_cases k4 : κ = 26
  · subst k4; exact Or.inr ⟨8, by decide +kernel⟩
  by_cases k5 : κ = 27
  · subst k5; exact Or.inr ⟨9, by decide +kernel⟩
  by_cases k6 : κ = 28
  · subst k6; exact Or.inr ⟨10, by decide +kernel⟩
  by_cases k7 : κ = 29
  · subst k7; exact Or.inr ⟨11, by decide +kernel⟩
  left
  unfold rkT sgD
  rw [if_neg k1, if_neg k2, if_neg k3, if_neg k4, if_neg k5, if_neg k6, if_neg k7, if_neg k6, if_neg k7, if_neg k3, if_neg k4, if_neg k5, if_neg k1, if_neg k2]
  exact ⟨rfl, rfl⟩
/-- behind a unit -/
theorem e12_behind (hp : p < 48) (V2 : Ivs V N own lim (2, E, I, (m, c), (i, u))) (S : mSt h n bs p own lim (2, E, I, (m, c), (i, u)))
    (H1 : ∀ s', sSg n bs E I m c i u = .inr s' → (s'.1 = 1 ∨ s'.1 = 2) → ∀ h' x, x = (if s'.1 = 1 then (1 : Int32) else 0) → mFu p h h' → mSt h' n bs p own lim s' → Q (some (.int x)) h')
    (H2 : ∀ e, sSg n bs E I m c i u = .inl e → ∀ h' x, mFu p h h' → mLo h' n bs e → Q (some (.int x)) h')
    (H3 : sgD (tk n bs i).1 = none → (stl 1 E m c).1 = [] → ∀ h', mFu p h h' → mRd h' n bs i p own lim (stl 1 E m c).2.1 (stl 1 E m c).2.2 u (1 + I.length) → mIf h' I → gI h' 84 36 = 0 → Q (some (.int 0)) h') : zC mX12_behindUnit [.ref 84] h Q := by
  obtain ⟨jE, jw, ju, jl, jA, jp, j0, j1, j2, j4, j5⟩ := V2
  have jw' : ard E + 1 + I.length ≤ 7 := jw
  have jm : m + pnd E + 1 ≤ 8 * u := (j2 rfl).1
  have ju' : u ≤ lim := ju
  have m0 : 0 < m := (j2 rfl).2
  have jA' : cdI V N own m c I (opd E + 1) := by
    have : cdI V N own m c I (if (2 : Nat) = 1 then opd E else if (2 : Nat) = 2 then opd E + 1 else 0) := jA
    rw [if_neg (by decide), if_pos rfl] at this
    exact this
  have jE : wfE E := jE
  have l34 := (opd_35 jE (by omega)).2
  obtain ⟨R, J, L⟩ := S
  dsimp only at R J
  have L : mPl h E := L (Or.inr rfl)
  rw [wth_2, Nat.add_assoc] at R
  have P := R.1
  have M := P.1
  have b31 := (tk_k (n := n) (bs := bs) i).1
  -- the tail: behind the signs
  have t104 : ∀ (h1 : zH), (rkT (tk n bs i).1 = 4 → cmpB E = false) → mFu p h h1 → mRd h1 n bs i p own lim (stl (br1 (rkT (tk n bs i).1)) E m c).2.1 (stl (br1 (rkT (tk n bs i).1)) E m c).2.2 u (ard (stl (br1 (rkT (tk n bs i).1)) E m c).1 + (1 + I.length)) → mIf h1 I → mPl h1 (stl (br1 (rkT (tk n bs i).1)) E m c).1 → zX mX12_behindUnit 104 [.ref 84, .int (nI (rkT (tk n bs i).1))] [] h1 Q := fun h1 hc F1 R1 J1 L1 => by
    have M1 := R1.1.1
    rcases rk_cs (tk n bs i).1 with ⟨r0, sg⟩ | ⟨s, sg, ⟨r1, r5⟩, es, s3, s6, x2, x1, x4⟩
    · have eb : br1 (rkT (tk n bs i).1) = 1 := by rw [r0]; rfl
      rw [eb] at R1 L1
      have st := stl_i (Nat.le_refl 1) E m c jE (by omega) (by omega) jA'
      obtain ⟨t1, t2, t3, t4, t5, t6⟩ := st
      rw [r0]
      generalize es : stl 1 E m c = T at R1 L1 t1 t2 t3 t4 t5 t6 H3
      obtain ⟨E1, m1, c1⟩ := T
      dsimp only at R1 L1 t1 t2 t3 t4 t5 t6 H3
      cases E1 with
      | nil =>
        refine bX12_behindUnit_104 _ _ _ _ (br_t (by decide +kernel) ⟨M1.o, fun h3 e3 => ?_⟩)
        have g1 : gI h1 84 36 = nI 1 := L1.1
        rw [g1, show nI 1 - 1 = nI 0 from nI_pred 0] at e3
        have F3 : fr [] [(84, 36)] h1 h3 := by rw [e3]; exact fr_pF (by simp) M1.o rfl rfl
        have M3 : mLay h3 := M1.fr F3 (by decide)
        have g3 : gI h3 84 36 = nI 0 := by rw [e3, gI_pF_s M1.o (by decide)]
        have e0 : (nI (0 : Nat)).toNatClampNeg = 0 := nI_clamp (by decide)
        refine ⟨_, M3.r28, M3.k28, ?_⟩
        rw [g3, e0, M3.n28, F3.i (by simp), L1.2.1]
        refine ⟨vp_in_nI (by decide) (by decide), br_f (by decide +kernel) (H3 sg rfl h3 (F1.tr (mFg.of F3 (by decide) (by decide) (by decide))) ?_ (J1.fr F3 (by simp) (by simp) (by simp)) (by rw [g3]; rfl))⟩
        have R3 := R1.fr F3 (by decide) (by decide) (by decide)
        rw [ard, Nat.zero_add] at R3
        exact R3
      | cons a E1 =>
        have a3 : a = 3 := by
          have : bnd a < 1 := t5
          rcases t1.2.2 with y | y | y
          · exact y
          · rw [y.1] at this; exact absurd this (by decide)
          · have := (bnd_46 a t1.1 y.1).1; omega
        subst a3
        have l34' := (opd_35 t1 (by omega)).2
        have lE : (3 :: E1 : List Nat).length = E1.length + 1 := rfl
        rw [lE] at l34'
        refine bX12_behindUnit_104 _ _ _ _ (br_t (by decide +kernel) ⟨M1.o, fun h3 e3 => ?_⟩)
        have g1 : gI h1 84 36 = nI (E1.length + 1 + 1) := L1.1
        rw [g1, nI_pred] at e3
        have F3 : fr [] [(84, 36)] h1 h3 := by rw [e3]; exact fr_pF (by simp) M1.o rfl rfl
        have M3 : mLay h3 := M1.fr F3 (by decide)
        have g3 : gI h3 84 36 = nI (E1.length + 1) := by rw [e3, gI_pF_s M1.o (by decide)]
        have i3 : ∀ r, aI h3 r = aI h1 r := fun r => by rw [e3]; exact funext fun i => aI_pF
        have ck : (nI (E1.length + 1)).toNatClampNeg = E1.length + 1 := nI_clamp (by omega)
        have a6 : aI h1 102 (E1.length + 1) = nI (eWt 3) := L1.2.2.1.1
        refine ⟨_, M3.r28, M3.k28, ?_⟩
        rw [g3, ck, M3.n28, i3, a6, eWt_3]
        refine ⟨vp_in_nI (by omega) (by decide), br_t (by decide +kernel) (fun h9 e9 => ?_)⟩
        have R3 := R1.fr F3 (by decide) (by decide) (by decide)
        have F9 : fr [] [(84, 35)] h3 h9 := by rw [e9]; exact fr_pF (by simp) M3.o rfl rfl
        have M9 : mLay h9 := M3.fr F9 (by decide)
        have i9 : ∀ r, aI h9 r = aI h3 r := fun r => by rw [e9]; exact funext fun i => aI_pF
        obtain ⟨P3, gd3, w1, w2, w3, w4, w5, w6, w7⟩ := R3
        have ar : ard (3 :: E1) + (1 + I.length) = ard E1 + (1 + I.length) + 1 := by rw [ard, if_pos (Or.inl rfl)]; omega
        have R9 : mRd h9 n bs i p own lim m1 c1 u (ard E1 + (1 + I.length)) := ⟨P3.fr F9 (by simp) (by decide) (by simp) (by decide), gd3.fr F9 (by simp), by rw [F9.gi (by simp)]; exact w1, by rw [F9.gi (by simp)]; exact w2, by rw [F9.gi (by simp)]; exact w3, by rw [i9]; exact w4, by rw [e9, gI_pF_s M3.o (by decide), w5, ar, nI_pred], by rw [i9]; exact w6, fun j hj => by rw [i9, i9, i9]; exact w7 j hj⟩
        have G9 : mFu p h h9 := F1.tr ((mFg.of F3 (by decide) (by decide) (by decide)).tr (mFg.of F9 (by decide) (by decide) (by decide)))
        have J9 := (J1.fr F3 (by simp) (by simp) (by simp)).fr F9 (by simp) (by simp) (by simp)
        have L9 : mPl h9 E1 := ⟨by rw [F9.gi (by simp)]; exact g3, by rw [i9, i3]; exact L1.2.1, by rw [i9, i9, i3, i3]; exact L1.2.2.2⟩
        have s2 : (41 : Int32) = nI (sgL.getD 2 0) := by decide +kernel
        refine s12_stands (g := 2) R9.1 (by decide) s2 (fun q => ⟨_, rfl, M9.o, s12_must R9.1 (Or.inr rfl) (fun g _ h15 F15 P15 => ⟨rfl, ?_⟩) (fun _ z => absurd z (by decide +kernel)) (fun g => absurd R9.2.1 g)⟩) (fun q => ⟨_, rfl, M9.o, s12_must R9.1 (Or.inl rfl) (fun _ z => absurd z (by decide +kernel)) (fun g _ h15 F15 E15 => ⟨rfl, ?_⟩) (fun g => absurd R9.2.1 g)⟩)
        · have ee : sSg n bs E I m c i u = .inr (2, E1, I, (m1, c1), (i + 1, u)) := by
            unfold sSg
            simp only [sg]
            rw [if_pos q, es] <;> rfl
          refine H1 _ ee (Or.inr rfl) h15 0 rfl (G9.tr (mFg.of F15 (by decide) (by decide) (by decide))) ⟨?_, J9.fr F15 (by simp) (by simp) (by simp), fun _ => L9.fr F15 (by simp) (by simp) (by simp)⟩
          rw [wth_2, Nat.add_assoc]
          exact mRd_to R9 F15 P15 (R9.2.1.fr F15 (by simp)) (by decide) (by decide)
        · have ee : sSg n bs E I m c i u = .inl (mp n bs i) := by
            unfold sSg
            simp only [sg]
            rw [if_neg q, es]
            split <;> rfl
          exact H2 _ ee h15 0 (G9.tr (mFg.of F15 (by decide) (by decide) (by decide))) ⟨⟨i, R9.1.fr F15 (by simp) (by decide) (by simp) (by decide)⟩, E15⟩
    · have eb : br1 (rkT (tk n bs i).1) = rkT (tk n bs i).1 := by unfold br1; rw [if_neg (by omega)]
      rw [eb] at R1 L1
      have ee : sSg n bs E I m c i u = .inr (1, s :: (stl (rkT (tk n bs i).1) E m c).1, I, ((stl (rkT (tk n bs i).1) E m c).2.1, (stl (rkT (tk n bs i).1) E m c).2.2), (i + 1, u)) := by
        unfold sSg
        simp only [sg]
        by_cases z : rkT (tk n bs i).1 = 4
        · have cm := hc z
          rw [if_pos z, z, cmpB_stl E m c cm, if_neg]
          rintro ⟨-, y⟩
          have := (cmpB_iff E m c).mpr y
          rw [cm] at this
          exact absurd this (by decide)
        · rw [if_neg z, if_neg (fun y => z y.1)]
      have st := stl_i r1 E m c jE (by omega) (by omega) jA'
      generalize es2 : stl (rkT (tk n bs i).1) E m c = T at R1 L1 ee st
      obtain ⟨E1, m1, c1⟩ := T
      dsimp only at R1 L1 ee st
      have l34' := (opd_35 st.1 (by omega)).2
      -- piled, and gone on
      have fin : ∀ (x y : Int32), x = nI (eWt s) → y = nI (eSg s) → zC mX12_pushE [.ref 84, .int x, .int y] h1 (fun r0 h18 => r0 = none ∧ (oK h18 84 12 ∧ (zC mX12_goOn [.ref 84] h18 (fun r0 h20 => r0 = none ∧ (Q (some (.int (1 : Int32))) h20))))) := fun x y hx hy =>
        e12_pushS (s := s) M1 L1 (by omega) hx hy (fun h2 F2 L2 => by
          have R2 := R1.fr F2 (by decide) (by decide) (by decide)
          refine ⟨rfl, R2.1.1.o, s12_goOnT R2.1 (fun h4 F4 P4 => ⟨rfl, ?_⟩)⟩
          refine H1 _ ee (Or.inl rfl) h4 1 rfl (F1.tr ((mFg.of F2 (by decide) (by decide) (by decide)).tr (mFg.of F4 (by decide) (by decide) (by decide)))) ⟨?_, (J1.fr F2 (by simp) (by simp) (by simp)).fr F4 (by simp) (by simp) (by simp), fun _ => L2.fr F4 (by simp) (by simp) (by simp)⟩
          have : wth (1, s :: E1, I, (m1, c1), (i + 1, u)) = ard E1 + (1 + I.length) := by
            rw [wth_1, ard, if_neg (by omega)]; omega
          rw [this]
          exact mRd_to R2 F4 P4 (R2.2.1.fr F4 (by simp)) (by decide) (by decide))
      refine bX12_behindUnit_104 _ _ _ _ (br_f (nI_nle (by omega) (by omega)) ?_)
      rw [nI_lit 2, nI_lit 1, nI_eq (by omega) (by decide), nI_eq (by omega) (by decide)]
      refine ⟨fun q => ⟨M1.o, fin _ _ (by rw [es]) ?_⟩, fun q => ⟨fun q1 => ⟨M1.o, fin _ _ (by rw [es]) ?_⟩, fun q1 => ⟨M1.o, ?_⟩⟩⟩
      · rw [x2 q]; decide +kernel
      · rw [x1 q1]; decide +kernel
      · have x := x4 q1 q
        have og := (tk_o (n := n) (bs := bs) i).2.2.2.2 ((tk n bs i).1 - 22) (by omega) (by omega)
        have n16 := R1.1.2.1.2.1
        rw [R1.1.2.2.1]
        refine s12_sign M1 R1.1.2.1 (by omega) ⟨_, rfl, M1.o, fin _ _ (by rw [es]) ?_⟩
        rw [if_pos og.1, og.2, x.2.2]
  have run : ∀ h1, h1 = h → (rkT (tk n bs i).1 = 4 → cmpB E = false) → zX mX12_behindUnit 23 [.ref 84, .int (nI (rkT (tk n bs i).1))] [] h1 Q := fun h1 e1 hc => by
    subst e1
    refine l12_behind (w0 := 1 + I.length) hp E m c h1 jE (by omega) (by omega) (by omega) R J L (fun h' F' R' J' L' => t104 h' hc F' R' J' L') ?_
    rcases rk_cs (tk n bs i).1 with ⟨r0, -⟩ | ⟨s, -, ⟨-, r5⟩, -⟩ <;> omega
  have rk5 : rkT (tk n bs i).1 ≤ 5 := by
    rcases rk_cs (tk n bs i).1 with ⟨r0, -⟩ | ⟨s, -, ⟨-, r5⟩, -⟩ <;> omega
  refine nX12_behindUnit _ _ _ (bX12_behindUnit_0 _ _ _ ⟨M.o, e12_rank P ⟨_, rfl, ?_⟩⟩)
  rw [nI_lit 4, nI_eq (by omega) (by decide)]
  refine ⟨fun q => ⟨M.o, e12_isCompared M L (by omega) ⟨_, rfl, fun z => run h rfl (fun _ => ?_), fun z => ⟨M.o, s12_misplaced P R.2.1 (fun h' F' E' => ⟨rfl, H2 _ ?_ h' 1 (mFg.of F' (by decide) (by decide) (by decide)) ⟨⟨i, P.fr F' (by simp) (by decide) (by simp) (by decide)⟩, E'⟩⟩)⟩⟩⟩, fun q => run h rfl (fun y => absurd y q)⟩
  · cases y : cmpB E with
    | false => rfl
    | true => rw [y, if_pos rfl] at z; exact absurd z (by decide +kernel)
  · have cm : cmpB E = true := by
      cases y : cmpB E with
      | true => rfl
      | false => rw [y, if_neg (by decide)] at z; exact absurd rfl z
    unfold sSg
    rcases rk_cs (tk n bs i).1 with ⟨r0, -⟩ | ⟨s, sg, -⟩
    · omega
    · rw [q] at sg
      simp only [sg]
      rw [if_pos trivial, if_pos ⟨trivial, (cmpB_iff E m c).mp cm⟩]
      rfl
theorem sUn_ph {s' : zPs} (h : sUn n bs K own lim E I m c i u = .inr s') : s'.1 = 1 ∨ s'.1 = 2 := by
  unfold sUn at h
  simp only [] at h
  repeat' split at h
  all_goals first | (cases h; exact Or.inl rfl) | (cases h; exact Or.inr rfl) | cases h
theorem stp_1 : stp n bs K own lim (1, E, I, (m, c), (i, u)) = sUn n bs K own lim E I m c i u := rfl
theorem stp_2 : stp n bs K own lim (2, E, I, (m, c), (i, u)) = sSg n bs E I m c i u := rfl
theorem stp_3 : stp n bs K own lim (3, E, I, (m, c), (i, u)) = sEl n bs I m c i u := rfl
/-- not stuck -/
def fuelS (n : Nat) (bs : Nat → Nat) (K : zKs) (own lim d : Nat) (s : zPs) : Prop := (∃ e, prs n bs K own lim d s = .inl e) ∨ ∃ s', prs n bs K own lim d s = .inr s' ∧ s'.1 = 4
theorem prs_s {d : Nat} {s s' : zPs} (h4 : s.1 ≠ 4) (es : stp n bs K own lim s = .inr s') : prs n bs K own lim (d + 1) s = prs n bs K own lim d s' := by
  rw [prs, if_neg h4, es]
theorem prs_e {d : Nat} {s : zPs} (h4 : s.1 ≠ 4) (es : stp n bs K own lim s = .inl e) : prs n bs K own lim (d + 1) s = .inl e := by
  rw [prs, if_neg h4, es]
theorem fuel_0 {s : zPs} (h4 : s.1 ≠ 4) (Z : fuelS n bs K own lim 0 s) : False := by
  rcases Z with ⟨e, z⟩ | ⟨s', z, z4⟩
  · rw [prs] at z; cases z
  · rw [prs] at z; cases z; exact h4 z4
/-- a condition -/
theorem l12_f (O : kyO K) (hp : p < 48) (ho : own < 8) : ∀ (d : Nat) (s : zPs) (h : zH), (s.1 = 1 ∨ s.1 = 2) → Ivs K.2.2.1 K.1.1 own lim s → mKy h rb K → mSt h n bs p own lim s → fuelS n bs K own lim d s →
    (∀ h' d' s', d' < d → prs n bs K own lim d s = prs n bs K own lim (d' + 1) s' → s'.1 = 2 → Ivs K.2.2.1 K.1.1 own lim s' → sgD (tk n bs s'.2.2.2.2.1).1 = none → (stl 1 s'.2.1 s'.2.2.2.1.1 s'.2.2.2.1.2).1 = [] → mFu p h h' → mRd h' n bs s'.2.2.2.2.1 p own lim (stl 1 s'.2.1 s'.2.2.2.1.1 s'.2.2.2.1.2).2.1 (stl 1 s'.2.1 s'.2.2.2.1.1 s'.2.2.2.1.2).2.2 s'.2.2.2.2.2 (1 + s'.2.2.1.length) → mIf h' s'.2.2.1 → Q none h') →
    (∀ h' e, prs n bs K own lim d s = .inl e → mFu p h h' → mLo h' n bs e → Q none h') → zX mX12_f 14 [.ref 84, .int (if s.1 = 1 then 1 else 0)] [] h Q := by
  intro d
  induction d with
  | zero => exact fun s h h12 _ _ _ Z _ _ => absurd Z (fun z => fuel_0 (by omega) z)
  | succ d ih =>
    intro s h h12 J A S Z F1 F2
    have h4 : s.1 ≠ 4 := by omega
    have nx : ∀ s' h' (x : Int32), stp n bs K own lim s = .inr s' → (s'.1 = 1 ∨ s'.1 = 2) → x = (if s'.1 = 1 then (1 : Int32) else 0) → mFu p h h' → mSt h' n bs p own lim s' → zX mX12_f 14 [.ref 84, .int x] [] h' Q := fun s' h' x es e12 ex F' S' => by
      have ep := prs_s (d := d) h4 es
      rw [ex]
      refine ih s' h' e12 (stp_iv O J h4 es).1 (A.fr F'.1 (by decide) (by simp)) S' ?_ (fun h2 d2 s2 l2 e2 => ?_) (fun h2 e e2 G2 => ?_)
      · unfold fuelS at Z ⊢; rw [ep] at Z; exact Z
      · exact fun a1 a2 a3 a4 a5 => F1 h2 d2 s2 (by omega) (by rw [ep]; exact e2) a1 a2 a3 a4 (F'.tr a5)
      · exact F2 h2 e (by rw [ep]; exact e2) (F'.tr G2)
    have ft : ∀ e h' (x : Int32), stp n bs K own lim s = .inl e → mFu p h h' → mLo h' n bs e → zX mX12_f 14 [.ref 84, .int x] [] h' Q := fun e h' x es F' L' =>
      bX12_f_14 _ _ _ _ ⟨L'.l.o, s12_isGood L'.l (fun g => absurd g L'.ng) (fun _ => ⟨_, rfl, br_t rfl (F2 h' e (prs_e h4 es) F' L')⟩)⟩
    obtain ⟨ph, E, I, ⟨m, c⟩, i, u⟩ := s
    have M := S.1.1.1
    have g36 : gI h 84 36 = nI (E.length + 1) := (S.2.2 h12).1
    obtain ⟨jE, jw, ju, jl, jA, jp, j0, j1, j2, j4, j5⟩ := id J
    dsimp only at h12 h4 jE jw ju jl j1
    have l34 : E.length ≤ 34 := by
      refine (opd_35 jE ?_).2
      have : wth (ph, E, I, (m, c), (i, u)) = ard E + (if ph = 1 ∨ ph = 2 then 1 else 0) + I.length := rfl
      rw [this, if_pos h12] at jw
      omega
    have hw : ard E + I.length ≤ 6 := by
      have : wth (ph, E, I, (m, c), (i, u)) = ard E + (if ph = 1 ∨ ph = 2 then 1 else 0) + I.length := rfl
      rw [this, if_pos h12] at jw
      omega
    refine bX12_f_14 _ _ _ _ ⟨M.o, s12_isGood M (fun _ => ⟨_, rfl, br_f (by decide +kernel) ⟨M.o, ?_⟩⟩) (fun g => absurd S.1.2.1 g)⟩
    rw [g36]
    refine br_f (nI_nle (Nat.succ_pos _) (by omega)) ?_
    rcases h12 with rfl | rfl
    · refine br_f (show ¬ ((1 : Int32) = 0) by decide +kernel) (e12_unit O jE hw (j1 rfl) ju jl hp ho A S (fun s' es h' x ex F' S' => ⟨_, rfl, nx s' h' x es (sUn_ph es) ex F' S'⟩) (fun e es h' x F' L' => ⟨_, rfl, ft e h' x es F' L'⟩))
    · refine br_t rfl (e12_behind hp J S (fun s' es e12 h' x ex F' S' => ⟨_, rfl, nx s' h' x es e12 ex F' S'⟩) (fun e es h' x F' L' => ⟨_, rfl, ft e h' x es F' L'⟩) (fun sg e1 h' F' R' J' g' => ⟨_, rfl, ?_⟩))
      refine bX12_f_14 _ _ _ _ ⟨R'.1.1.o, s12_isGood R'.1.1 (fun _ => ⟨_, rfl, br_f (by decide +kernel) ⟨R'.1.1.o, br_t (by rw [g']; decide +kernel) ?_⟩⟩) (fun g => absurd R'.2.1 g)⟩
      exact F1 h' d _ (Nat.lt_succ_self d) rfl rfl J sg e1 F' R' J'
end

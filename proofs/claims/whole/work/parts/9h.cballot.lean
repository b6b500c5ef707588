/-! ===== the class reads a ballot's line ===== -/
section
variable {h h' : zH} {Q : Option Value → zH → Prop} {n tc i t m u own ot : Nat} {bs : Nat → Nat} {R : List Nat} {r : zRl} {K : zKs} {c : Nat → zOp} {s : zFt ⊕ Nat}
theorem cPs.fz {X : List Nat} {Y : List (Nat × Nat)} (P : cPs h n bs tc i) (F : fz h.1 X Y h h') (l : 126 ≤ h.1) (hX : [4, 5, 6, 7].all (fun k => !(X.contains k)) = true) (hY : [0, 1, 2, 3, 4, 6, 7, 8, 9, 10].all (fun f => !(Y.contains (2, f))) = true) (hY1 : [0, 1, 2].all (fun f => !(Y.contains (1, f))) = true) : cPs h' n bs tc i := by
  simp only [List.all_cons, List.all_nil, and_true, Bool.and_eq_true] at hX hY hY1
  obtain ⟨x4, x5, x6, x7⟩ := hX
  obtain ⟨y0, y1, y2, y3, y4, y6, y7, y8, y9, y10⟩ := hY
  obtain ⟨z0, z1, z2⟩ := hY1
  obtain ⟨⟨a1, a2, ⟨a3, a4, a5⟩, ⟨a6, a7, a8⟩, ⟨b1, b2, b3, b4⟩, ⟨b5, b6, b7, b8⟩, ⟨c1, c2, c3⟩, ⟨c4, c5, c6⟩, ⟨c7, c8, c9⟩⟩, ⟨d1, d2, d3, d4, d5, d6⟩, e1, e2, e3, e4, e5⟩ := P
  have lt : ∀ k, k < 126 → k < h.1 := fun k hk => by omega
  refine ⟨⟨F.o a1, by rw [F.gr (lt 1 (by decide)) (ni_of z0)]; exact a2, ⟨by rw [F.gr (lt 1 (by decide)) (ni_of z1)]; exact a3, F.ik a4, by rw [F.n (lt 8 (by decide))]; exact a5⟩, ⟨by rw [F.gr (lt 1 (by decide)) (ni_of z2)]; exact a6, F.ik a7, by rw [F.n (lt 9 (by decide))]; exact a8⟩, ⟨F.o b1, by rw [F.gr (lt 2 (by decide)) (ni_of y0)]; exact b2, F.ik b3, by rw [F.n (lt 3 (by decide))]; exact b4⟩, ⟨by rw [F.gr (lt 2 (by decide)) (ni_of y1)]; exact b5, F.lk b6, by rw [F.n (lt 4 (by decide))]; exact b7, fun k hk => by rw [F.l (lt 4 (by decide)) (ni_of x4)]; exact b8 k hk⟩, ⟨by rw [F.gr (lt 2 (by decide)) (ni_of y2)]; exact c1, F.ik c2, by rw [F.n (lt 5 (by decide))]; exact c3⟩, ⟨by rw [F.gr (lt 2 (by decide)) (ni_of y3)]; exact c4, F.ik c5, by rw [F.n (lt 6 (by decide))]; exact c6⟩, ⟨by rw [F.gr (lt 2 (by decide)) (ni_of y4)]; exact c7, F.lk c8, by rw [F.n (lt 7 (by decide))]; exact c9⟩⟩, ⟨d1, d2, by rw [F.gi (lt 2 (by decide)) (ni_of y6)]; exact d3, d4, d5, fun j hj => ?_⟩, e1, by rw [F.gi (lt 2 (by decide)) (ni_of y7)]; exact e2, by rw [F.gi (lt 2 (by decide)) (ni_of y8)]; exact e3, by rw [F.gi (lt 2 (by decide)) (ni_of y9)]; exact e4, fun w => by rw [F.gl (lt 2 (by decide)) (ni_of y10)]; exact e5 w⟩
  rw [F.i (lt 5 (by decide)) (ni_of x5), F.i (lt 6 (by decide)) (ni_of x6), F.l (lt 7 (by decide)) (ni_of x7)]
  exact d6 j hj
/-- the ballot is made -/
theorem s4_ballot {S : List Nat} {w av as_ : Nat} (L : cRr h) (D : cWd h S m c w (ot + u) av as_) (g9 : gI h 1 9 = nI ot) (hm : m ≤ 640) (bv : av < 256 ∧ ∀ v, av.testBit v = akV m c v) (bS : as_ < 256 ∧ ∀ v, as_.testBit v = akS m c v) (l : 126 ≤ h.1) (hR : ∀ k, k ∈ R → k < h.1)
    (H : ∀ h' bl, fz h.1 [] [] h h' → h'.1 = h.1 + 2 → h'.2.1 = h.2.1 + m + 4 → 126 ≤ bl → cB h' R bl m c u → Q (some (.ref bl)) h') : zC mX4_ballot [.ref 1] h Q := by
  obtain ⟨d1, ⟨d2, d2'⟩, d3, d4, d5, d6⟩ := D
  obtain ⟨l1, l2, ⟨l3, l4, l5⟩, l6⟩ := L
  refine nX4_ballot _ _ _ (bX4_ballot_0 _ _ _ ⟨l1, _, l3, l4, ?_⟩)
  have e : (if (nI (aN h 8)) < (if (gI h 1 4) < (0 : Int32) then (0 : Int32) else (gI h 1 4)) then (nI (aN h 8)) else (if (gI h 1 4) < (0 : Int32) then (0 : Int32) else (gI h 1 4))) = nI m := by
    rw [d2, if_neg (nI_pos (by omega)), l5, if_neg (nI_nlt (by omega) (by decide))]
  rw [e]
  refine s7_copyOf (n := 1600) l4 l5 (by omega) (by decide) (by omega) (fun h4 F4 n4 p4 k4 N4 A4 => ⟨some h.1, rfl, h.1, rfl, fun h7 e7 => ?_⟩)
  have F7 : fz h4.1 [] [] h4 h7 := by rw [e7]; exact fz_zn (Nat.le_refl _)
  have F47 : fz h.1 [] [] h h7 := F4.tr (F7.mo (by omega) (fun _ _ z => z) (fun _ _ z => z))
  have o7 : oK h7 h4.1 0 := by
    rw [e7]
    exact ⟨zg_n.1, _, zg_n.2, rfl⟩
  have ne : ∀ k f, k < h.1 → gI h7 k f = gI h k f := fun k f hk => F47.gi hk (by simp)
  rw [ne 1 8 (by omega), ne 1 9 (by omega), ne 1 10 (by omega), ne 1 11 (by omega), d4, g9, d5, d6, nI_sub (Nat.le_add_right ot u), Nat.add_sub_cancel_left]
  refine ⟨F47.o l1, nX0_init _ _ _ _ _ _ _ (bX0_init_0 _ _ _ _ _ _ _ ⟨o7, fun h8 e8 h9 e9 h10 e10 h11 e11 => ⟨rfl, ?_⟩⟩)⟩
  have G8 : fr [] [(h4.1, 0), (h4.1, 1), (h4.1, 2), (h4.1, 3)] h7 h8 := by rw [e8]; exact fr_pF (by simp) o7 rfl rfl
  have G9 : fr [] [(h4.1, 0), (h4.1, 1), (h4.1, 2), (h4.1, 3)] h8 h9 := by rw [e9]; exact fr_pF (by simp) (G8.o o7) rfl rfl
  have G10 : fr [] [(h4.1, 0), (h4.1, 1), (h4.1, 2), (h4.1, 3)] h9 h10 := by rw [e10]; exact fr_pF (by simp) (G9.o (G8.o o7)) rfl rfl
  have G11 : fr [] [(h4.1, 0), (h4.1, 1), (h4.1, 2), (h4.1, 3)] h10 h11 := by rw [e11]; exact fr_pF (by simp) (G10.o (G9.o (G8.o o7))) rfl rfl
  have GA := G8.tr (G9.tr (G10.tr G11))
  have o8 := G8.o o7
  have o9 := G9.o o8
  have o10 := G10.o o9
  have c7 : h7.1 = h.1 + 2 := by rw [e7]; show h4.1 + 1 = _; omega
  have c7p : h7.2.1 = h.2.1 + m + 4 := by rw [e7]; show h4.2.1 + 4 = _; omega
  have FB : fz h.1 [] [] h h11 := by
    refine F47.tr ((GA.z (n := h.1) (by omega)).mo (Nat.le_refl _) (fun _ _ z => z) (fun q hq z => ?_))
    simp only [List.mem_cons, List.not_mem_nil, or_false] at z
    rcases z with z | z | z | z <;> (rw [z] at hq; exact absurd hq (by show ¬ h4.1 < h.1; omega))
  refine H h11 h4.1 FB (by rw [GA.1.1, c7]) (by rw [GA.1.2, c7p]) (by omega) ⟨GA.o o7, Or.inr (by omega), ?_, ⟨h.1, ?_, Or.inr l, fun z => ?_, GA.ik (F7.ik k4), ?_, hm, fun j hj => ?_⟩, av, as_, ?_, bv.1, bv.2, ?_, bS.1, bS.2⟩
  · rw [e11, gI_pF_n (Or.inr (by decide)), e10, gI_pF_n (Or.inr (by decide)), e9, gI_pF_s o8 (by decide)]
  · rw [e11, gR_pF_n (Or.inr (by decide)), e10, gR_pF_n (Or.inr (by decide)), e9, gR_pF_n (Or.inr (by decide)), e8]; exact gR_pF_s o7 (by decide)
  · have := hR _ z; omega
  · rw [GA.n, F7.n (by omega)]; exact N4
  · rw [GA.i (by simp), F7.i (by omega) (by simp), A4 j hj]; exact d2' j hj
  · rw [e11, gI_pF_n (Or.inr (by decide)), e10, gI_pF_s o9 (by decide)]
  · rw [e11, gI_pF_s o10 (by decide)]
theorem prs_iv {n : Nat} {bs : Nat → Nat} {K : zKs} {own lim : Nat} (O : kyO K) : ∀ (d : Nat) (s0 : zPs), Ivs K.2.2.1 K.1.1 own lim s0 → ∀ s, prs n bs K own lim d s0 = .inr s → Ivs K.2.2.1 K.1.1 own lim s ∧ s0.2.2.2.2.1 ≤ s.2.2.2.2.1 := by
  intro d
  induction d with
  | zero => intro s0 J0 s e; rw [prs] at e; cases e; exact ⟨J0, Nat.le_refl _⟩
  | succ d ih =>
    intro s0 J0 s e
    rw [prs] at e
    split at e
    · cases e; exact ⟨J0, Nat.le_refl _⟩
    · rename_i n4
      cases y : stp n bs K own lim s0 with
      | inl e' => rw [y] at e; cases e
      | inr s1 =>
        rw [y] at e
        have iv := stp_iv O J0 n4 y
        have r := ih s1 iv.1 s e
        exact ⟨r.1, Nat.le_trans iv.2.2 r.2⟩
theorem ln_gt {q : zRl × Nat} (O : rlO r) (h : ln n bs r i = .inr q) : i < q.2 := by
  unfold ln at h
  cases z : lnB n bs r i with
  | inl e => rw [z] at h; cases h
  | inr p =>
    rw [z] at h
    simp only [] at h
    split at h
    · cases h
      show i < p.2 + 1
      suffices i ≤ p.2 by omega
      unfold lnB at z
      split at z
      · split at z
        · cases z
        · split at z
          · cases z
          · cases z; show i ≤ i + 2; omega
      · split at z
        · split at z
          · cases z
          · split at z
            · cases z
            · cases z; show i ≤ i + 2; omega
        · split at z
          · split at z
            · cases z
            · split at z
              · cases z
              · split at z
                · cases z
                · split at z
                  · cases z
                  · split at z
                    · cases z
                    · split at z
                      · cases z
                      · cases z; show i ≤ i + 6; omega
          · split at z
            · split at z
              · cases z
              · rename_i v y
                cases w : prs n bs r.1.1 v (80 - rlU r) 1602 (0, [], [], (0, c00), (i + 2, 0)) with
                | inl e => rw [w] at z; cases z
                | inr s' =>
                  rw [w] at z
                  cases z
                  have := (prs_iv O.1 1602 _ (Ivs_0 (by omega)) s' w).2
                  have e : ((0, [], [], (0, c00), (i + 2, 0)) : zPs).2.2.2.2.1 = i + 2 := rfl
                  rw [e] at this
                  show i ≤ s'.2.2.2.2.1
                  omega
            · cases z
    · cases h
/-- a ballot's line -/
theorem l4_ballotLine {l2 : Int32} (O : rlO r) (W : cTw h t R r) (ht : t = 70 ∨ t = 77) (r3 : gR h 1 3 = some t) (P : cEx h n bs tc i) (k5 : (tk n bs i).1 = 5) (g8 : gI h 1 8 = nI (rlU r)) (l : 126 ≤ h.1) (hR : ∀ k, k ∈ R → k < h.1)
    (H : ∀ h' s' g, fz h.1 (XCr t) (YCr t) h h' → g ≤ 1 → h'.1 ≤ h.1 + 2 * g → h'.2.1 ≤ h.2.1 + 644 * g → cEi h' n bs tc s' → lnS n bs r i → (∀ e, s' = .inl e → lnB n bs r i = .inl e) → (∀ i', s' = .inr i' → ∃ r', lnB n bs r i = .inr (r', i') ∧ cTw h' t R r' ∧ gI h' 1 8 = nI (rlU r') ∧ rlT r' = rlT r + g) → zX mX4_readRoll 146 [.ref 1, .float 0, .int l2] [] h' Q) : zX mX4_readRoll 108 [.ref 1, .float 0, .int l2] [] h Q := by
  have n8 := O.1.2.2.1
  have W0 := W
  obtain ⟨⟨w0, -, -, w1, w2, w3, w4, w5⟩, wl, -, ⟨tb, b1, b2, b3⟩, -⟩ := W
  have eL : lnB n bs r i = match tkN (tk n bs (i + 1)) r.1.1.2.2.2 r.1.1.2.2.1 r.2.1 with
    | .inl e => .inl e
    | .inr v => match prs n bs r.1.1 v (80 - rlU r) 1602 (0, [], [], (0, c00), (i + 2, 0)) with
      | .inl e => .inl e
      | .inr s => .inr (rB r v (s.2.2.2.1.1, (s.2.2.2.1.2, s.2.2.2.2.2)), s.2.2.2.2.1) := by
    unfold lnB
    rw [if_neg (by omega), if_neg (by omega), if_neg (by omega), if_pos k5]
    rfl
  have bad : ∀ (h1 : zH) (e : zFt), cLo h1 n bs tc e → fr (XCr t) (YCr t) h h1 → lnS n bs r i → lnB n bs r i = .inl e → zX mX4_readRoll 146 [.ref 1, .float 0, .int l2] [] h1 Q := fun h1 e L F Z el => H h1 (.inl e) 0 (F.z (Nat.le_refl _)) (by decide) (by have := F.1.1; omega) (by have := F.1.2; omega) L Z (fun e' z => by cases z; exact el) (fun j z => by cases z)
  refine bX4_readRoll_108 _ _ _ _ ⟨P.1.1.1, nX4_tellWhoseBallot _ _ _ (bX4_tellWhoseBallot_0 _ _ _ ⟨P.1.1.1, _, P.1.1.2.1, P.1.1.2.2.2.2.1.1, u4_adv P (by omega) (by omega) (fun h4 F4 P4 => ⟨rfl, P4.1.1.1, t, by rw [F4.gr (by simp)]; exact r3, F4.o w0, t + 3, by rw [F4.gr (by simp <;> omega)]; exact w1, ?_⟩)⟩)⟩
  have W4 := W0.fr F4 ht (by decide) (by decide)
  have G4 : fr (XCr t) (YCr t) h h4 := fc_mo F4 (by simp) (by decide)
  rw [W4.1.2.2.2.2.2.2.1, show gI h4 t 9 = nI tb by rw [F4.gi (by simp <;> omega)]; exact b1]
  refine s4_takeKnown (bar := r.2.1) P4.1 P4.2 W4.1.2.2.2.2.1 W4.1.2.2.2.2.2.1 (by decide) n8 W4.1.2.2.2.2.2.2.2 O.1.2.2.2 (fun v hv => by rw [nI_bit (by omega) (by omega), b3 v]) (fun h9 v ev hv F9 P9 g9 => ⟨_, rfl, br_t (nI_pos' (by omega)) ⟨P9.1.1, ?_⟩⟩) (fun h9 e ee F9 P9 E9 => ⟨_, rfl, br_f (by decide +kernel) ⟨_, rfl, br_t rfl (bad h9 e ⟨⟨_, P9⟩, E9⟩ (G4.tr (fc_mo F9 (by simp) (by decide))) (fun _ v' z => by rw [ee] at z; cases z) (by rw [eL, ee]))⟩⟩)
  rw [ev] at eL
  simp only [] at eL
  have tv : r.2.1 v = false := (tkN_lt ev).2.1
  have v8 : v < 8 := by omega
  have G9 : fr (XCr t) (YCr t) h h9 := G4.tr (fc_mo F9 (by simp) (by decide))
  have W9 := W4.fr F9 ht (by decide) (by decide)
  have u9 : gI h9 1 8 = nI (rlU r) := by rw [F9.gi (by simp), F4.gi (by simp)]; exact g8
  have r9 : gR h9 1 3 = some t := by rw [F9.gr (by simp), F4.gr (by simp)]; exact r3
  refine nX4_beginBallot _ _ _ _ (bX4_beginBallot_0 _ _ _ _ ⟨P9.1.1, fun a2 e2 a4 e4 a6 e6 a8 e8 a10 e10 a12 e12 a14 e14 => ⟨rfl, _, rfl, br_f (by decide +kernel) ?_⟩⟩)
  have o9 := P9.1.1
  have f2 : fr [] [(1, 7), (1, 9), (1, 10), (1, 11), (1, 4), (1, 5), (1, 6)] h9 a2 := by rw [e2]; exact fr_pF (by simp) o9 rfl rfl
  rw [f2.gi (by simp), u9] at e4
  have f4 : fr [] [(1, 7), (1, 9), (1, 10), (1, 11), (1, 4), (1, 5), (1, 6)] a2 a4 := by rw [e4]; exact fr_pF (by simp) (f2.o o9) rfl rfl
  have f6 : fr [] [(1, 7), (1, 9), (1, 10), (1, 11), (1, 4), (1, 5), (1, 6)] a4 a6 := by rw [e6]; exact fr_pF (by simp) (f4.o (f2.o o9)) rfl rfl
  have f8 : fr [] [(1, 7), (1, 9), (1, 10), (1, 11), (1, 4), (1, 5), (1, 6)] a6 a8 := by rw [e8]; exact fr_pF (by simp) (f6.o (f4.o (f2.o o9))) rfl rfl
  have f10 : fr [] [(1, 7), (1, 9), (1, 10), (1, 11), (1, 4), (1, 5), (1, 6)] a8 a10 := by rw [e10]; exact fr_pF (by simp) (f8.o (f6.o (f4.o (f2.o o9)))) rfl rfl
  have f12 : fr [] [(1, 7), (1, 9), (1, 10), (1, 11), (1, 4), (1, 5), (1, 6)] a10 a12 := by rw [e12]; exact fr_pF (by simp) (f10.o (f8.o (f6.o (f4.o (f2.o o9))))) rfl rfl
  have f14 : fr [] [(1, 7), (1, 9), (1, 10), (1, 11), (1, 4), (1, 5), (1, 6)] a12 a14 := by rw [e14]; exact fr_pF (by simp) (f12.o (f10.o (f8.o (f6.o (f4.o (f2.o o9)))))) rfl rfl
  have o2 := f2.o o9
  have o4 := f4.o o2
  have o6 := f6.o o4
  have o8 := f8.o o6
  have o10 := f10.o o8
  have o12 := f12.o o10
  have FA := f2.tr (f4.tr (f6.tr (f8.tr (f10.tr (f12.tr f14)))))
  have q7 : gI a14 1 7 = nI v := by rw [e14, gI_pF_n (Or.inr (by decide)), e12, gI_pF_n (Or.inr (by decide)), e10, gI_pF_n (Or.inr (by decide)), e8, gI_pF_n (Or.inr (by decide)), e6, gI_pF_n (Or.inr (by decide)), e4, gI_pF_n (Or.inr (by decide)), e2, gI_pF_s o9 (by decide)]
  have q9 : gI a14 1 9 = nI (rlU r) := by rw [e14, gI_pF_n (Or.inr (by decide)), e12, gI_pF_n (Or.inr (by decide)), e10, gI_pF_n (Or.inr (by decide)), e8, gI_pF_n (Or.inr (by decide)), e6, gI_pF_n (Or.inr (by decide)), e4, gI_pF_s o2 (by decide)]
  have q10 : gI a14 1 10 = nI 0 := by rw [e14, gI_pF_n (Or.inr (by decide)), e12, gI_pF_n (Or.inr (by decide)), e10, gI_pF_n (Or.inr (by decide)), e8, gI_pF_n (Or.inr (by decide)), e6, gI_pF_s o4 (by decide)]; rfl
  have q11 : gI a14 1 11 = nI 0 := by rw [e14, gI_pF_n (Or.inr (by decide)), e12, gI_pF_n (Or.inr (by decide)), e10, gI_pF_n (Or.inr (by decide)), e8, gI_pF_s o6 (by decide)]; rfl
  have q4 : gI a14 1 4 = nI 0 := by rw [e14, gI_pF_n (Or.inr (by decide)), e12, gI_pF_n (Or.inr (by decide)), e10, gI_pF_s o8 (by decide)]; rfl
  have q5 : gI a14 1 5 = nI 0 := by rw [e14, gI_pF_n (Or.inr (by decide)), e12, gI_pF_s o10 (by decide)]; rfl
  have q6 : gI a14 1 6 = nI 0 := by rw [e14, gI_pF_s o12 (by decide)]; rfl
  have q8 : gI a14 1 8 = nI (rlU r) := by rw [FA.gi (by simp)]; exact u9
  have W14 := W9.fr FA ht (by decide) (by decide)
  have P14 : cEx a14 n bs tc (i + 2) := ⟨P9.fr FA (by decide) (by decide) (by decide), g9.fr FA (by simp)⟩
  have V14 : cEv a14 t r.1.1 v := ⟨by rw [FA.gr (by simp)]; exact r9, ht, W14.1, q7, v8⟩
  have X14 : cSt a14 n bs tc (rlU r) (0, [], [], (0, c00), (i + 2, 0)) := ⟨P14, 0, 0, ⟨⟨q5, trivial⟩, ⟨q4, fun j hj => absurd hj (Nat.not_lt_zero j)⟩, q6, q8, q10, q11⟩, ⟨by decide, fun v => by rw [Nat.zero_testBit]; rfl⟩, ⟨by decide, fun v => by rw [Nat.zero_testBit]; rfl⟩⟩
  have G14 : fr (XCr t) (YCr t) h a14 := G9.tr (fc_mo FA (by simp) (by decide))
  refine ⟨P14.1.1.1, nX4_readWording _ _ _ (bX4_readWording_0 _ _ _ (s4_words O.1 (show rlU r + (80 - rlU r) = 80 by have := O.2.2.2.2.2; omega) 1602 0 _ a14 rfl (fun _ => Nat.zero_le _) (Nat.zero_le _) V14 (Ivs_0 (by omega)) X14 (fun s' es p4 J' h6 F6 X6 => ⟨_, rfl, br_f (by decide +kernel) ?_⟩) (fun e es h6 F6 L6 => ⟨_, rfl, br_t rfl (bad h6 e L6 (G14.tr (fc_mo F6 (by simp [XCr]) (by decide))) (fun _ v' z => by rw [ev] at z; cases z; exact Or.inl ⟨e, es⟩) (by rw [eL, es]))⟩)))⟩
  rw [es] at eL
  have Z : lnS n bs r i := fun _ v' z => by rw [ev] at z; cases z; exact Or.inr ⟨s', es, p4⟩
  obtain ⟨P6, av, as_, D6, bv6, bS6⟩ := X6
  have ok := Ivs_ok J' p4
  have us : s'.2.2.2.2.2 ≤ 80 - rlU r := J'.2.2.1
  have W6 := W14.fr F6 ht (by decide) (by decide)
  have G6 : fr (XCr t) (YCr t) h h6 := G14.tr (fc_mo F6 (by simp [XCr]) (by decide))
  have r6 : gR h6 1 3 = some t := by rw [F6.gr (by simp)]; exact V14.1
  have n6 : h6.1 = h.1 := G6.1.1
  refine ⟨P6.1.1.1, t, r6, ?_⟩
  rw [show gI h6 1 7 = nI v by rw [F6.gi (by simp)]; exact q7]
  refine s4_ballot (R := R) (u := s'.2.2.2.2.2) P6.1.1 D6 (by rw [F6.gi (by simp)]; exact q9) ok.1 bv6 bS6 (by omega) (fun k hk => by rw [n6]; exact hR k hk) (fun h11 bl F11 n11 p11 hbl B11 => ⟨some bl, rfl, bl, rfl, F11.o W6.1.1, ?_⟩)
  have W11 := W6.fz F11 (by omega) ht (by decide) (by decide)
  obtain ⟨⟨k0, kk⟩, ⟨⟨a1, a2, a3⟩, ⟨c1, c2, c3⟩, ⟨d1, d2, d3⟩⟩, vs, ⟨tb', g1, g2, g3⟩, bl5⟩ := id W11
  have cvv : (nI v).toNatClampNeg = v := nI_clamp (by omega)
  refine nX10_tellBallot _ _ _ _ _ (bX10_tellBallot_0 _ _ _ _ _ (br_f (nI_pos (by omega)) ⟨k0, _, d1, d2, br_f (by rw [d3]; exact nI_ge v8 (by decide)) ⟨B11.1, by rw [d3]; exact vp_in_nI v8 (by decide), fun h8 e8 h12 e12 => ⟨rfl, ?_⟩⟩⟩))
  rw [cvv] at e8
  have f8 : fr [t + 6] [] h11 h8 := by rw [e8]; exact fr_pR (by simp)
  rw [f8.gi (by simp), g1, show (1 : Int32) <<< (nI v &&& 31) = nI (2 ^ v) from nI_1shl (by omega), nI_or] at e12
  have f12 : fr [] [(t, 9)] h8 h12 := by rw [e12]; exact fr_pF (by simp) (f8.o k0) rfl rfl
  have fA : fr [t + 6] [(t, 9)] h11 h12 := (f8.mo (by simp) (by simp)).tr (f12.mo (by simp) (by simp))
  have FZ : fz h.1 (XCr t) (YCr t) h h12 := by
    refine ((G6.z (Nat.le_refl _)).tr ?_).tr ?_ (h1 := h11)
    · rw [← n6]; exact F11.mo (Nat.le_refl _) (fun _ _ z => by simp at z) (fun _ _ z => by simp at z)
    · refine (fA.z (n := h.1) (by omega)).mo (Nat.le_refl _) (fun k _ hk => ?_) (fun q _ hq => ?_)
      · simp only [List.mem_cons, List.not_mem_nil, or_false] at hk; rw [hk]; simp [XCr]
      · simp only [List.mem_cons, List.not_mem_nil, or_false] at hq; rw [hq]; simp [YCr]
  have nY : ∀ f, f ≠ 9 → (t, f) ∉ [(t, 9)] := fun f hf z => hf (by simpa using z)
  have nX : ∀ k, k ≠ t + 6 → k ∉ [t + 6] := fun k h1 z => by simp at z; omega
  have P12 : cEx h12 n bs tc s'.2.2.2.2.1 := ⟨(P6.1.fz F11 (by omega) (by decide) (by decide) (by decide)).fr fA (by simp <;> omega) (by simp <;> omega) (by simp <;> omega), ⟨by rw [fA.gi (by simp <;> omega), F11.gi (by omega) (by simp)]; exact P6.2.1, by rw [fA.gi (by simp <;> omega), F11.gi (by omega) (by simp)]; exact P6.2.2⟩⟩
  refine H h12 (.inr s'.2.2.2.2.1) 1 FZ (Nat.le_refl _) (by have := fA.1.1; omega) (by have := fA.1.2; have := G6.1.2; have := ok.1; omega) P12 Z (fun e z => by cases z) (fun j z => ?_)
  cases z
  refine ⟨rB r v (s'.2.2.2.1.1, (s'.2.2.2.1.2, s'.2.2.2.2.2)), eL, ⟨?_, ?_, fun x hx => ?_, ⟨tb' ||| 2 ^ v, ?_, Nat.or_lt_two_pow (n := 8) g2 (Nat.pow_lt_pow_right (by decide) v8), fun x => ?_⟩, fun x hx => ?_⟩, ?_, rlT_B v8 tv⟩
  · exact W11.1.fr fA (nX _ (by omega)) (nX _ (by omega)) (nX _ (by omega)) (fun f hf => nY f (by omega))
  · exact ⟨⟨by rw [fA.gr (nY 3 (by decide))]; exact a1, fA.ik a2, by rw [fA.n]; exact a3⟩, ⟨by rw [fA.gr (nY 4 (by decide))]; exact c1, fA.ik c2, by rw [fA.n]; exact c3⟩, ⟨by rw [fA.gr (nY 5 (by decide))]; exact d1, fA.rk d2, by rw [fA.n]; exact d3⟩⟩
  · rw [fA.i (nX _ (by omega)), fA.i (nX _ (by omega))]; exact vs x hx
  · rw [e12, gI_pF_s (f8.o k0) (by decide)]
  · rw [or_bit, g3]
    show (r.2.1 x || (v == x)) = va_up r.2.1 v true x
    by_cases y : x = v
    · rw [y, up_s]; simp
    · rw [up_n y, beq_false_of_ne (fun z => y z.symm), Bool.or_false]
  · show (va_up r.2.1 v true x = false → _) ∧ (va_up r.2.1 v true x = true → ∃ bl, _ ∧ _ ∧ cB h12 R bl (va_up r.2.2 v _ x).1 (va_up r.2.2 v _ x).2.1 (va_up r.2.2 v _ x).2.2)
    have hXf : ∀ k, k ∈ [t + 6] → (k < 126 ∧ k ≠ 35) ∨ k ∈ R := fun k hk => Or.inl (by simp at hk; omega)
    have hYf : ∀ q : Nat × Nat, q ∈ [(t, 9)] → q.1 < 126 ∧ q.1 ≠ 34 := fun q hq => by simp at hq; rw [hq]; exact ⟨by show t < 126; omega, by show t ≠ 34; omega⟩
    by_cases y : x = v
    · rw [y, up_s, up_s]
      refine ⟨fun z => (by cases z), fun _ => ⟨bl, ?_, hbl, B11.fr fA hXf hYf⟩⟩
      rw [f12.r (by simp), e8]
      exact aR_pR_s ⟨_, d2⟩
    · rw [up_n y, up_n y, f12.r (by simp), e8, aR_pR_n (Or.inr y)]
      exact ⟨(bl5 x hx).1, fun z => by
        obtain ⟨bl', x1, x2, x3⟩ := (bl5 x hx).2 z
        exact ⟨bl', x1, x2, x3.fr fA hXf hYf⟩⟩
  · rw [rlU_B v8 (O.2.2.2.1 v tv), fA.gi (by simp <;> omega), F11.gi (by omega) (by simp)]
    exact D6.2.2.2.1
end

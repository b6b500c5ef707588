/-! ===== the class's reader: else, a start ===== -/
section
variable {h h' : zH} {Q : Option Value → zH → Prop} {n tc i m w u own lim ot t : Nat} {bs : Nat → Nat} {c : Nat → zOp} {I : List (Nat × Bool)} {K : zKs}
theorem s4_readElse (hI : I.length ≤ 7) (hm : m ≤ 640) (ai : ∀ j b, (j, b) ∈ I → j < m ∧ (b = true → c j = (3, 0, 0))) (X : cSt h n bs tc ot (3, [], I, (m, c), (i, u)))
    (H1 : ∀ s', sEl n bs I m c i u = .inr s' → ∀ h', fr XP YX h h' → cSt h' n bs tc ot s' → Q (some (.int (nI s'.1))) h')
    (H2 : ∀ e, sEl n bs I m c i u = .inl e → ∀ h' x, fr XP YX h h' → cLo h' n bs tc e → Q (some (.int x)) h') : zC mX4_readElse [.ref 1] h Q := by
  obtain ⟨P, av, as_, D, bv, bS⟩ := X
  dsimp only at P bv bS
  have D' : cWd h (I.map ifK) m c I.length (ot + u) av as_ := by
    have es : cStk (3, [], I, (m, c), (i, u)) = I.map ifK := rfl
    have ew : wth (3, [], I, (m, c), (i, u)) = I.length := by
      show 0 + (if (3 : Nat) = 1 ∨ (3 : Nat) = 2 then 1 else 0) + I.length = _
      rw [if_neg (by decide)]; omega
    rw [es, ew] at D
    exact D
  have go : ∀ (I : List (Nat × Bool)) (h0 : zH), I.length ≤ 7 → (∀ j b, (j, b) ∈ I → j < m ∧ (b = true → c j = (3, 0, 0))) → fr XP YX h h0 → cEx h0 n bs tc i → cWd h0 (I.map ifK) m c I.length (ot + u) av as_ → (∀ s', sEl n bs I m c i u = .inr s' → ∀ h', fr XP YX h h' → cSt h' n bs tc ot s' → Q (some (.int (nI s'.1))) h') → (∀ e, sEl n bs I m c i u = .inl e → ∀ h' x, fr XP YX h h' → cLo h' n bs tc e → Q (some (.int x)) h') → zX mX4_readElse 5 [.ref 1, .int (nI I.length)] [] h0 Q := by
    intro I
    induction I with
    | nil =>
      intro h0 hI ai F P0 D0 H1 H2
      refine bX4_readElse_5 _ _ _ _ (br_t (by decide +kernel) (bX4_readElse_28 _ _ _ ⟨P0.1.1.1, br_t (by rw [D0.1.1]; rfl) ?_⟩))
      refine H1 _ rfl h0 F ⟨P0, av, as_, ?_, bv, bS⟩
      exact D0
    | cons p I ih =>
      intro h0 hI ai F P0 D0 H1 H2
      obtain ⟨j, b⟩ := p
      have hI' : I.length + 1 ≤ 7 := hI
      have ll : ((j, b) :: I).length = I.length + 1 := rfl
      have lm : ((((j, b) :: I).map ifK)).length = I.length + 1 := by rw [List.length_map]; rfl
      have hj := ai j b List.mem_cons_self
      have hd : (((j, b) :: I).map ifK).headD 0 = ifK (j, b) := rfl
      have k31 : ifK (j, b) < 2 ^ 31 := by cases b with
        | false => show 2 < 2 ^ 31; decide
        | true => show 1 + 16 * j < 2 ^ 31; omega
      refine bX4_readElse_5 _ _ _ _ (br_f (nI_nle (by omega) (by omega)) ⟨P0.1.1.1, e4_topKind P0 D0 (by rw [lm]; omega) (by rw [hd]; exact k31) ⟨_, rfl, ?_⟩⟩)
      rw [hd]
      cases b with
      | false =>
        have e2 : ifK (j, false) % 16 = 2 := rfl
        rw [e2]
        refine br_t (by decide +kernel) ⟨P0.1.1.1, ?_⟩
        refine e4_drop (k := 2) (e := 2) (S := I.map ifK) P0 D0 (by decide) (fun _ => by omega) (fun h7 F7 P7 D7 => ⟨rfl, ?_⟩)
        rw [ll, pk_m1]
        refine ih h7 (by omega) (fun j' b' hb => ai j' b' (List.mem_cons_of_mem _ hb)) (F.tr F7) P7 ?_ H1 H2
        rw [if_pos (by decide), ll] at D7
        exact D7
      | true =>
        have e1 : ifK (j, true) = 1 + 16 * j := rfl
        have e2 : ifK (j, true) % 16 = 1 := by rw [e1]; omega
        rw [e2]
        refine br_f (by decide +kernel) (bX4_readElse_28 _ _ _ ⟨P0.1.1.1, br_f (by rw [D0.1.1, lm]; exact nI_ne0 (by omega) (by omega)) ⟨_, P0.1.1.2.2.2.1.1, ?_⟩⟩)
        have el : gI h0 1 5 - (1 : Int32) = nI I.length := by rw [D0.1.1, lm, nI_pred]
        have et : aI h0 9 I.length = nI (1 + 16 * j) := by
          have := D0.1.2.1
          rw [List.length_map] at this
          rw [this, e1]
        rw [el]
        refine s11_atN P0.1.1.2.2.2.1.2.1 P0.1.1.2.2.2.1.2.2 (by omega) (by decide) ⟨_, rfl, P0.1.1.1, ?_⟩
        rw [et]
        have es : nI (1 + 16 * j) >>> ((4 : Int32) &&& 31) = nI j := by
          have := nI_shr (n := 1 + 16 * j) (k := 4) (by omega) (by decide)
          rw [show (1 + 16 * j) / 2 ^ 4 = j by omega] at this
          exact this
        have c3 := hj.2 rfl
        refine e4_take (κ := 8) P0 D0 (by decide) (fun q h7 F7 P7 D7 => ⟨_, rfl, br_f (by decide +kernel) ⟨P7.1.1.1, _, P7.1.1.2.2.1.1, ?_⟩⟩) (fun q h7 F7 L7 => ⟨_, rfl, br_t rfl ?_⟩)
        · obtain ⟨d1, d2, d3, d4, d5, d6⟩ := D7
          rw [es, d2.1]
          have ev : (3 : Int32) + ((256 : Int32) * nI m) = cdC (3, 0, m) := by
            unfold cdC
            rw [nI_lit 3, nI_lit 256, pk_mul, nI_add]
            show nI (3 + 256 * m) = nI (3 + 16 * 0 + 256 * m)
            rfl
          rw [ev]
          refine s11_putN P7.1.1.2.2.1.2.1 P7.1.1.2.2.1.2.2 (by omega) (by decide) (fun h12 e12 => ⟨rfl, ?_⟩)
          have F12 : fr XP YQ h7 h12 := by rw [e12]; exact fr_pI (by simp)
          have P12 : cEx h12 n bs tc (i + 1) := P7.fr F12 (by decide) (by decide) (by decide) (by simp)
          have g12 : ∀ f, gI h12 1 f = gI h7 1 f := fun f => by rw [e12, gI_pI]
          refine ⟨P12.1.1.1, _, P12.1.1.2.2.2.1.1, ?_⟩
          have el2 : gI h12 1 5 - (1 : Int32) = nI I.length := by rw [g12, d1.1, lm, nI_pred]
          rw [el2]
          refine s11_putN (x := 2) P12.1.1.2.2.2.1.2.1 P12.1.1.2.2.2.1.2.2 (by omega) (by decide) (fun h15 e15 => ⟨rfl, ?_⟩)
          have F15 : fr XP YQ h12 h15 := by rw [e15]; exact fr_pI (by simp)
          have g15 : ∀ f, gI h15 1 f = gI h7 1 f := fun f => by rw [e15, gI_pI, g12]
          have se : sEl n bs ((j, true) :: I) m c i u = .inr (0, [], (j, false) :: I, (m, pE c j (3, 0, m)), (i + 1, u)) := by rw [sEl, if_pos q]
          refine H1 _ se h15 (F.tr (F7.tr ((F12.mo (by simp) (by simp)).tr (F15.mo (by simp) (by simp))))) ⟨P12.fr F15 (by decide) (by decide) (by decide) (by simp), av, as_, ?_, ⟨bv.1, fun v => by rw [bv.2 v]; exact (akV_p c3).symm⟩, ⟨bS.1, fun v => by rw [bS.2 v]; exact (akS_p c3).symm⟩⟩
          have ew : wth (0, [], (j, false) :: I, (m, pE c j (3, 0, m)), (i + 1, u)) = ((j, true) :: I).length := by
            show 0 + (if (0 : Nat) = 1 ∨ (0 : Nat) = 2 then 1 else 0) + (I.length + 1) = _
            rw [if_neg (by decide), ll]; omega
          rw [ew]
          refine ⟨⟨by rw [g15]; exact d1.1, ?_, ?_⟩, ⟨by rw [g15]; exact d2.1, fun k hk => ?_⟩, by rw [g15]; exact d3, by rw [g15]; exact d4, by rw [g15]; exact d5, by rw [g15]; exact d6⟩
          · show aI h15 9 (I.map ifK).length = nI 2
            rw [List.length_map, e15]
            exact aI_pI_s ⟨_, P12.1.1.2.2.2.1.2.1⟩
          · refine stk9_c d1.2.2 (fun k hk => ?_)
            rw [List.length_map] at hk
            rw [e15, aI_pI_n (Or.inr (by omega)), e12, aI_pI_n (Or.inl (by decide))]
          · show aI h15 8 k = cdC (pE c j (3, 0, m) k)
            rw [e15, aI_pI_n (Or.inl (by decide)), e12]
            unfold pE
            by_cases z : k = j
            · rw [if_pos z, z]; exact aI_pI_s ⟨_, P7.1.1.2.2.1.2.1⟩
            · rw [if_neg z, aI_pI_n (Or.inr z)]; exact d2.2 k hk
        · have se : sEl n bs ((j, true) :: I) m c i u = .inl (mp n bs i) := by rw [sEl, if_neg q]
          exact H2 _ se h7 _ (F.tr F7) L7
  refine nX4_readElse _ _ _ (bX4_readElse_0 _ _ _ ⟨P.1.1.1, ?_⟩)
  rw [D'.1.1, List.length_map]
  exact go I h hI ai fr.rf P D' H1 H2
theorem s4_readStart (O : kyO K) (hI : I.length ≤ 7) (hm : m ≤ 640) (hu : u ≤ lim) (hl : ot + lim = 80) (V : cEv h t K own) (X : cSt h n bs tc ot (0, [], I, (m, c), (i, u)))
    (H1 : ∀ s', stp n bs K own lim (0, [], I, (m, c), (i, u)) = .inr s' → ∀ h', fr XP YX h h' → cSt h' n bs tc ot s' → Q (some (.int (nI s'.1))) h')
    (H2 : ∀ e, stp n bs K own lim (0, [], I, (m, c), (i, u)) = .inl e → ∀ h' x, fr XP YX h h' → cLo h' n bs tc e → Q (some (.int x)) h') : zC mX4_readStart [.ref 1] h Q := by
  have X0 := X
  obtain ⟨P, av, as_, D, bv, bS⟩ := X
  dsimp only at P bv bS
  have D' : cWd h (I.map ifK) m c I.length (ot + u) av as_ := by
    have es : cStk (0, [], I, (m, c), (i, u)) = I.map ifK := rfl
    have ew : wth (0, [], I, (m, c), (i, u)) = I.length := by
      show 0 + (if (0 : Nat) = 1 ∨ (0 : Nat) = 2 then 1 else 0) + I.length = _
      rw [if_neg (by decide)]; omega
    rw [es, ew] at D
    exact D
  have b31 := (tk_k (n := n) (bs := bs) i).1
  have es : stp n bs K own lim (0, [], I, (m, c), (i, u)) = (if (tk n bs i).1 = 6 then (if I.length = 7 then .inl (mp n bs i) else .inr (1, [], I, (m, c), (i + 1, u))) else sMk n bs K own lim I m c i u) := rfl
  rw [es] at H1 H2
  refine nX4_readStart _ _ _ (bX4_readStart_0 _ _ _ ⟨P.1.1.1, _, P.1.1.2.1, P.1.1.2.2.2.2.1.1, ?_⟩)
  rw [P.1.2.2.2.2.1, nI_lit 6, nI_eq (by omega) (by decide)]
  refine ⟨fun q => ?_, fun q => ?_⟩
  · rw [if_pos q] at H1 H2
    refine e4_enter (k := 0) P D' (by rw [List.length_map]; omega) hI (by omega) (by omega) (fun w7 h5 F5 P5 D5 => ⟨rfl, ?_⟩) (fun w7 h5 F5 L5 => ⟨rfl, ?_⟩)
    · rw [if_neg w7] at H1
      refine H1 _ rfl h5 F5 ⟨P5, av, as_, ?_, bv, bS⟩
      have ew : wth (1, [], I, (m, c), (i + 1, u)) = I.length + 1 := by
        show 0 + (if (1 : Nat) = 1 ∨ (1 : Nat) = 2 then 1 else 0) + I.length = _
        rw [if_pos (by decide)]; omega
      rw [ew]
      exact D5
    · rw [if_pos w7] at H2
      exact H2 _ rfl h5 _ F5 L5
  · rw [if_neg q] at H1 H2
    refine s4_readMark O hI hm hu hl V X0 (fun s' e h6 x F6 X6 => ⟨_, rfl, ?_⟩) (fun e ee h6 x F6 L6 => ⟨_, rfl, H2 e ee h6 _ F6 L6⟩)
    have p3 : s'.1 = 3 := by
      unfold sMk at e
      simp only [] at e
      repeat' split at e
      all_goals first | (cases e; rfl) | cases e
    have r := H1 s' e h6 F6 X6
    rw [p3] at r
    exact r
end

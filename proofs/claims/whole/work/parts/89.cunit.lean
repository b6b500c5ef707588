/-! ===== the class's reader: a unit ===== -/
section
variable {h h' : zH} {Q : Option Value → zH → Prop} {n tc i m w u own lim ot t V0 N0 : Nat} {bs : Nat → Nat} {c : Nat → zOp} {E : List Nat} {I : List (Nat × Bool)} {K : zKs}
theorem e4_stepX {S : List Nat} {av as_ x : Nat} (P : cEx h n bs tc i) (D : cWd h S m c w u av as_) (hm : m < 1600) (H : ∀ h', fr XP YX h h' → cEx h' n bs tc i → cWd h' S (m + 1) (pE c m (0, 0, x)) w u av as_ → Q none h') : zC mX4_addStep [.ref 1, .int 0, .int 0, .int (nI x)] h Q := by
  have r := e4_addStep (o := (0, 0, x)) P D hm H
  dsimp only at r
  rw [nI_0] at r
  exact r
theorem s4_readUnit (O : kyO K) (hE : wfE E) (hw : ard E + 1 + I.length ≤ 7) (hm : m ≤ 700) (hu : u ≤ lim) (hl : ot + lim = 80) (V : cEv h t K own) (X : cSt h n bs tc ot (1, E, I, (m, c), (i, u)))
    (H1 : ∀ s', sUn n bs K own lim E I m c i u = .inr s' → ∀ h', fr XP YX h h' → cSt h' n bs tc ot s' → Q (some (.int (nI s'.1))) h')
    (H2 : ∀ e, sUn n bs K own lim E I m c i u = .inl e → ∀ h' x, fr XP YX h h' → cLo h' n bs tc e → Q (some (.int x)) h') : zC mX4_readUnit [.ref 1] h Q := by
  obtain ⟨P, av, as_, D, bv, bS⟩ := X
  dsimp only at P bv bS
  have O8 := O.2.2.1
  have O4 := O.2.1.1
  have O3 := O.1.1
  have l34 := (opd_35 hE (by omega)).2
  obtain ⟨S, hS⟩ : ∃ S, S = E ++ (0 :: I.map ifK) := ⟨_, rfl⟩
  have lS : S.length ≤ 42 := by rw [hS, List.length_append, List.length_cons, List.length_map]; omega
  have ew : wth (1, E, I, (m, c), (i, u)) = ard E + 1 + I.length := by
    show ard E + (if (1 : Nat) = 1 ∨ (1 : Nat) = 2 then 1 else 0) + I.length = _
    rw [if_pos (by decide)]
  have D' : cWd h S m c (ard E + 1 + I.length) (ot + u) av as_ := by
    have es : cStk (1, E, I, (m, c), (i, u)) = S := by rw [hS]; rfl
    rw [es, ew] at D
    exact D
  have b31 := (tk_k (n := n) (bs := bs) i).1
  unfold sUn at H1 H2
  simp only [] at H1 H2
  rw [ew] at H1 H2
  have nst : ∀ (o : zOp) (i' : Nat) (av' as' : Nat) (h9 : zH), cEx h9 n bs tc i' → cWd h9 S (m + 1) (pE c m o) (ard E + 1 + I.length) (ot + u + 1) av' as' → av' < 256 → as' < 256 → (∀ v, av'.testBit v = (akV m c v || ((o.1 == 2 || o.1 == 13) && o.2.2 == v))) → (∀ v, as'.testBit v = (akS m c v || ((o.1 == 1 || o.1 == 14 || o.1 == 15) && o.2.1 == v))) → cSt h9 n bs tc ot (2, E, I, (m + 1, pE c m o), (i', u + 1)) := fun o i' av' as' h9 P9 D9 a1 a2 a3 a4 => by
    refine ⟨P9, av', as', ?_, ⟨a1, fun v => ?_⟩, ⟨a2, fun v => ?_⟩⟩
    · have ew2 : wth (2, E, I, (m + 1, pE c m o), (i', u + 1)) = ard E + 1 + I.length := by
        show ard E + (if (2 : Nat) = 1 ∨ (2 : Nat) = 2 then 1 else 0) + I.length = _
        rw [if_pos (by decide)]
      have es2 : cStk (2, E, I, (m + 1, pE c m o), (i', u + 1)) = S := by rw [hS]; rfl
      rw [ew2, es2]
      exact D9
    · rw [a3]; exact akV_e.symm
    · rw [a4]; exact akS_e.symm
  have hk : ∀ k, k < 2 ^ 31 → (nI (tk n bs i).1 = nI k ↔ (tk n bs i).1 = k) := fun k hk => nI_eq (by omega) hk
  -- votes: the street and the step
  have a45L : ∀ (h0 : zH) (x : Int32) (e : zFt), cLo h0 n bs tc e → (∀ h', fr XP YP h0 h' → cLo h' n bs tc e → Q (some (.int 2)) h') → zX mX4_readVotes 45 [.ref 1, .float 0, .int x, .float 0] [] h0 (fun r0 h2 => r0 = none ∧ (Q (some (.int (2 : Int32))) h2)) := fun h0 x e L hq =>
    bX4_readVotes_45 _ _ _ _ ⟨L.l.1, br_f L.ng (l4_addStep L (fun h3 F3 L3 => ⟨rfl, rfl, hq h3 F3 L3⟩))⟩
  have a45 : ∀ (h0 : zH) (i0 q : Nat), q ≤ 3 → cEx h0 n bs tc i0 → cWd h0 S m c (ard E + 1 + I.length) (ot + u + 1) av as_ → cEv h0 t K own → (∀ h' p, srB n bs K i0 = .inr p → fr XP YX h0 h' → cSt h' n bs tc ot (2, E, I, (m + 1, pE c m (1, p.2, q)), (p.1, u + 1)) → Q (some (.int 2)) h') → (∀ h' e, srB n bs K i0 = .inl e → fr XP YX h0 h' → cLo h' n bs tc e → Q (some (.int 2)) h') → zX mX4_readVotes 45 [.ref 1, .float 0, .int (nI q), .float 0] [] h0 (fun r0 h2 => r0 = none ∧ (Q (some (.int (2 : Int32))) h2)) := fun h0 i0 q q3 P0 D0 V0 K1 K2 => by
    refine bX4_readVotes_45 _ _ _ _ ⟨P0.1.1.1, br_t P0.2.1 (e4_takeStreet P0 D0 V0 O (fun h3 p ep hp F3 P3 D3 => ⟨_, rfl, P3.1.1.1, ?_⟩) (fun h3 e ee F3 L3 => ⟨_, rfl, L3.l.1, l4_addStep L3 (fun h6 F6 L6 => ⟨rfl, rfl, K2 h6 e ee (F3.tr (F6.mo (by simp) (by simp))) L6⟩)⟩))⟩
    refine e4_addStep (o := (1, p.2, q)) P3 D3 (by omega) (fun h6 F6 P6 D6 => ⟨rfl, rfl, K1 h6 p ep (F3.tr F6) ?_⟩)
    refine nst (1, p.2, q) p.1 av (as_ ||| 2 ^ p.2) h6 P6 D6 bv.1 (or_lt8 bS.1 (by omega)) (fun v => by rw [bv.2 v]; exact (Bool.or_false _).symm) (fun v => by rw [or_bit, bS.2 v]; rfl)
  have votes : (tk n bs i).1 = 17 ∨ (tk n bs i).1 = 18 → zX mX4_readUnit 122 [.ref 1, .int (nI (tk n bs i).1)] [] h Q := fun q => by
    refine bX4_readUnit_122 _ _ _ _ ⟨P.1.1.1, nX4_readVotes _ _ _ _ (bX4_readVotes_0 _ _ _ _ ⟨P.1.1.1, e4_countUnit P D' (by omega) (fun q80 h2 F2 P2 D2 => ⟨_, rfl, br_f (by decide +kernel) ⟨P2.1.1.1, e4_take (κ := (tk n bs i).1) P2 D2 (by omega) (fun _ h6 F6 P6 D6 => ⟨_, rfl, br_f (by decide +kernel) ?_⟩) (fun z => absurd rfl z)⟩⟩) (fun q80 h2 F2 L2 => ⟨_, rfl, br_t rfl (a45L h2 _ _ L2 (fun h' F L => ?_))⟩)⟩)⟩
    · have V6 := (V.fr (X := []) F2).fr (X := []) F6
      rw [nI_lit 17, hk 17 (by decide)]
      refine ⟨fun z => ⟨P6.1.1.1, _, V6.1, V6.2.2.1.1, _, V6.2.2.1.2.1.1, e4_takeName P6 D6 V6 O (fun h9 v ev hv F9 P9 D9 => ⟨_, rfl, ?_⟩) (fun h9 e ee F9 L9 => ⟨_, rfl, a45L h9 _ e L9 (fun h' F L => ?_)⟩)⟩, fun z => ?_⟩
      · rw [nI_1]
        refine a45 h9 (i + 2) (v + 1) (by omega) P9 D9 (V6.fr (X := []) F9) (fun h' p ep F' X' => ?_) (fun h' e ee F' L' => ?_)
        · have r := H1 (2, E, I, (m + 1, pE c m (1, p.2, v + 1)), (p.1, u + 1)) (by rw [if_neg (by omega), if_neg (by omega), if_neg (by omega), if_pos z, if_neg (by omega), ev]; dsimp only; rw [ep]) h' (F2.tr (F6.tr (F9.tr F'))) X'
          exact r
        · exact H2 e (by rw [if_neg (by omega), if_neg (by omega), if_neg (by omega), if_pos z, if_neg (by omega), ev]; dsimp only; rw [ee]) h' _ (F2.tr (F6.tr (F9.tr F'))) L'
      · exact H2 e (by rw [if_neg (by omega), if_neg (by omega), if_neg (by omega), if_pos z, if_neg (by omega), ee]) h' _ (F2.tr (F6.tr (F9.tr (F.mo (by simp) (by simp))))) L
      · rw [← nI_0]
        refine a45 h6 (i + 1) 0 (by omega) P6 D6 V6 (fun h' p ep F' X' => ?_) (fun h' e ee F' L' => ?_)
        · have r := H1 (2, E, I, (m + 1, pE c m (1, p.2, 0)), (p.1, u + 1)) (by rw [if_neg (by omega), if_neg (by omega), if_neg (by omega), if_neg z, if_pos (by omega), if_neg (by omega), ep]) h' (F2.tr (F6.tr F')) X'
          exact r
        · exact H2 e (by rw [if_neg (by omega), if_neg (by omega), if_neg (by omega), if_neg z, if_pos (by omega), if_neg (by omega), ee]) h' _ (F2.tr (F6.tr F')) L'
    · refine H2 _ ?_ h' _ (F2.tr (F.mo (by simp) (by simp))) L
      rcases q with q | q
      · rw [if_neg (by omega), if_neg (by omega), if_neg (by omega), if_pos q, if_pos (by omega)]; rfl
      · rw [if_neg (by omega), if_neg (by omega), if_neg (by omega), if_neg (by omega), if_pos q, if_pos (by omega)]; rfl
  refine nX4_readUnit _ _ _ (bX4_readUnit_0 _ _ _ ⟨P.1.1.1, _, P.1.1.2.1, P.1.1.2.2.2.2.1.1, ?_⟩)
  rw [P.1.2.2.2.2.1]
  rw [nI_lit 16, nI_lit 17, nI_lit 18, nI_lit 19, nI_lit 21, nI_lit 23, hk 16 (by decide), hk 17 (by decide), hk 18 (by decide), hk 19 (by decide), hk 21 (by decide), hk 23 (by decide)]
  refine ⟨fun q => ?_, fun q => votes (Or.inl q), fun q => votes (Or.inr q), fun q => ?_, fun q => ?_, fun q => ?_, fun a1 a2 a3 a4 a5 a6 => ?_⟩
  · rw [if_pos q] at H1 H2
    have hd : S.headD 0 = E.headD 0 := by rw [hS]; exact ap_hd rfl
    have h12 := wfE_hd hE
    have b5 : ∀ k, k < 12 → bnd k ≤ 5 := by decide +kernel
    have bl := b5 _ h12
    refine bX4_readUnit_56 _ _ _ ⟨P.1.1.1, e4_topKind P D' (by omega) (by rw [hd]; omega) ⟨_, rfl, ?_⟩⟩
    rw [hd, Nat.mod_eq_of_lt (by omega)]
    refine s4_binding h12 ⟨_, rfl, ?_⟩
    rw [zbind_n _ h12, nI_lit 4, nI_ltI (by omega) (by decide)]
    refine ⟨fun q2 => ⟨P.1.1.1, e4_enter (k := 6) P D' (by omega) hw (by omega) (by omega) (fun w7 h8 F8 P8 D8 => ⟨rfl, ?_⟩) (fun w7 h8 F8 L8 => ⟨rfl, ?_⟩)⟩, fun q2 => ⟨P.1.1.1, e4_fail (k := 2) P (by decide) (fun h10 F10 L10 => ⟨_, rfl, L10.l.1, l4_enter L10 (fun h13 F13 L13 => ⟨rfl, ?_⟩)⟩)⟩⟩
    · rw [if_neg (by omega)] at H1
      refine H1 _ rfl h8 F8 ⟨P8, av, as_, ?_, bv, bS⟩
      have ew2 : wth (1, 6 :: E, I, (m, c), (i + 1, u)) = ard E + 1 + I.length + 1 := by
        show (1 + ard E) + (if (1 : Nat) = 1 ∨ (1 : Nat) = 2 then 1 else 0) + I.length = _
        rw [if_pos (by decide)]; omega
      have es2 : cStk (1, 6 :: E, I, (m, c), (i + 1, u)) = 6 :: S := by rw [hS]; rfl
      rw [ew2, es2]
      exact D8
    · rw [if_pos (Or.inr w7)] at H2
      exact H2 _ rfl h8 _ F8 L8
    · rw [if_pos (Or.inl (by omega))] at H2
      exact H2 _ rfl h13 _ (F10.tr (F13.mo (by simp) (by simp))) L13
  · rw [if_neg (by omega), if_neg (by omega), if_neg (by omega), if_neg (by omega), if_neg (by omega), if_pos q] at H1 H2
    have a24L : ∀ (h0 : zH) (x : Int32) (e : zFt), x < 0 → cLo h0 n bs tc e → (∀ h', fr XP YP h0 h' → cLo h' n bs tc e → Q (some (.int 2)) h') → zX mX4_readIs 24 [.ref 1, .float 0, .float 0] [.int x] h0 (fun r0 h2 => r0 = none ∧ (Q (some (.int (2 : Int32))) h2)) := fun h0 x e hx L hq =>
      bX4_readIs_24 _ _ _ _ (br_t hx ⟨L.l.1, l4_addStep L (fun h3 F3 L3 => ⟨rfl, rfl, hq h3 F3 L3⟩)⟩)
    refine bX4_readUnit_129 _ _ _ ⟨P.1.1.1, nX4_readIs _ _ _ (bX4_readIs_0 _ _ _ ⟨P.1.1.1, e4_countUnit P D' (by omega) (fun q80 h2 F2 P2 D2 => ⟨_, rfl, br_f (by decide +kernel) ⟨P2.1.1.1, e4_take (κ := 19) P2 D2 (by decide) (fun _ h6 F6 P6 D6 => ⟨_, rfl, br_f (by decide +kernel) ⟨P6.1.1.1, ?_⟩⟩) (fun z => absurd q z)⟩⟩) (fun q80 h2 F2 L2 => ⟨_, rfl, br_t rfl (bX4_readIs_23 _ _ _ (a24L h2 _ _ (by decide +kernel) L2 (fun h' F L => H2 _ (if_pos (by omega)) h' _ (F2.tr (F.mo (by simp) (by simp))) L)))⟩)⟩)⟩
    rw [if_neg (show ¬ u = lim by omega)] at H1 H2
    have V6 := (V.fr (X := []) F2).fr (X := []) F6
    refine e4_takeOther P6 D6 V6 O (fun h9 v ev hv F9 P9 D9 => ⟨_, rfl, ?_⟩) (fun h9 e ee F9 L9 => ⟨_, rfl, a24L h9 _ e (by decide +kernel) L9 (fun h' F L => H2 e (by rw [ee]) h' _ (F2.tr (F6.tr (F9.tr (F.mo (by simp) (by simp))))) L)⟩)
    rw [ev] at H1 H2
    dsimp only at H1 H2
    have V9 := V6.fr (X := []) F9
    refine bX4_readIs_24 _ _ _ _ (br_f (nI_pos (by omega)) ⟨P9.1.1.1, _, V9.1, V9.2.2.1.1, _, V9.2.2.1.2.1.1, e4_takeName P9 D9 V9 O (fun h10 y ey hy F10 P10 D10 => ⟨_, rfl, P10.1.1.1, ?_⟩) (fun h10 e ee F10 L10 => ⟨_, rfl, L10.l.1, l4_addStep L10 (fun h11 F11 L11 => ⟨rfl, rfl, H2 e (by rw [ee]) h11 _ (F2.tr (F6.tr (F9.tr (F10.tr (F11.mo (by simp) (by simp)))))) L11⟩)⟩)⟩)
    rw [ey] at H1
    rw [nI_1]
    refine e4_addStep (o := (2, y + 1, v)) P10 D10 (by omega) (fun h11 F11 P11 D11 => ⟨rfl, rfl, ?_⟩)
    exact H1 _ rfl h11 (F2.tr (F6.tr (F9.tr (F10.tr F11)))) (nst (2, y + 1, v) (i + 3) (av ||| 2 ^ v) as_ h11 P11 D11 (or_lt8 bv.1 (by omega)) bS.1 (fun x => by rw [or_bit, bv.2 x]; rfl) (fun x => by rw [bS.2 x]; exact (Bool.or_false _).symm))
  · rw [if_neg (by omega), if_neg (by omega), if_pos q] at H1 H2
    refine bX4_readUnit_93 _ _ _ _ ⟨P.1.1.1, _, P.1.1.2.1, P.1.1.2.2.2.2.1.1, ?_⟩
    rw [P.1.2.2.2.2.2.2 (by omega), lN_i]
    refine e4_stepX P D' (by omega) (fun h2 F2 P2 D2 => ⟨rfl, P2.1.1.1, e4_countUnit P2 D2 (by omega) (fun q80 h4 F4 P4 D4 => ⟨_, rfl, br_f (by decide +kernel) ⟨P4.1.1.1, e4_take (κ := (tk n bs i).1) P4 D4 (by omega) (fun _ h8 F8 P8 D8 => ⟨_, rfl, ?_⟩) (fun z => absurd rfl z)⟩⟩) (fun q80 h4 F4 L4 => ⟨_, rfl, br_t rfl ?_⟩)⟩)
    · rw [if_neg (show ¬ u = lim by omega)] at H1
      exact H1 _ rfl h8 (F2.tr (F4.tr F8)) (nst (0, 0, (tk n bs i).2.2.1) (i + 1) av as_ h8 P8 D8 bv.1 bS.1 (fun v => by rw [bv.2 v]; exact (Bool.or_false _).symm) (fun v => by rw [bS.2 v]; exact (Bool.or_false _).symm))
    · rw [if_pos (show u = lim by omega)] at H2
      exact H2 _ rfl h4 _ (F2.tr F4) L4
  · rw [if_neg (by omega), if_pos q] at H1 H2
    refine bX4_readUnit_81 _ _ _ ⟨P.1.1.1, e4_countUnit P D' (by omega) (fun q80 h2 F2 P2 D2 => ⟨_, rfl, P2.1.1.1, e4_enter (k := 3) P2 D2 (by omega) hw (by omega) (by omega) (fun w7 h8 F8 P8 D8 => ⟨rfl, ?_⟩) (fun w7 h8 F8 L8 => ⟨rfl, ?_⟩)⟩) (fun q80 h2 F2 L2 => ⟨_, rfl, L2.l.1, l4_enter L2 (fun h8 F8 L8 => ⟨rfl, ?_⟩)⟩)⟩
    · rw [if_neg (by omega)] at H1
      refine H1 _ rfl h8 (F2.tr F8) ⟨P8, av, as_, ?_, bv, bS⟩
      have ew2 : wth (1, 3 :: E, I, (m, c), (i + 1, u + 1)) = ard E + 1 + I.length + 1 := by
        show (1 + ard E) + (if (1 : Nat) = 1 ∨ (1 : Nat) = 2 then 1 else 0) + I.length = _
        rw [if_pos (by decide)]; omega
      have es2 : cStk (1, 3 :: E, I, (m, c), (i + 1, u + 1)) = 3 :: S := by rw [hS]; rfl
      rw [ew2, es2]
      exact D8
    · rw [if_pos (Or.inr w7)] at H2
      exact H2 _ rfl h8 _ (F2.tr F8) L8
    · rw [if_pos (Or.inl (by omega))] at H2
      exact H2 _ rfl h8 _ (F2.tr (F8.mo (by simp) (by simp))) L8
  · rw [if_neg a1, if_neg a6, if_neg a5, if_neg a2, if_neg a3, if_neg a4] at H2
    exact bX4_readUnit_135 _ _ _ ⟨P.1.1.1, e4_fail (k := 2) P (by decide) (fun h8 F8 L8 => ⟨_, rfl, H2 _ rfl h8 _ F8 L8⟩)⟩
end

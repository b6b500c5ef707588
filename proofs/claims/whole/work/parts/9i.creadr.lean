/-! ===== the class reads a roll, a wording ===== -/
section
variable {h h' : zH} {Q : Option Value → zH → Prop} {n tc i t : Nat} {bs : Nat → Nat} {R : List Nat} {r : zRl} {K : zKs}
theorem YCr_n {a f : Nat} (ht : t = 70 ∨ t = 77) (ha : a < 70) (h0 : (a, f) ∉ YC0) : (a, f) ∉ YCr t := fun z => by
  rcases List.mem_append.mp z with y | y
  · simp at y; omega
  · exact h0 y
theorem lnS_n (hk : (tk n bs i).1 ≠ 5) : lnS n bs r i := fun z => absurd z hk
theorem l4_lines (ht : t = 70 ∨ t = 77) : ∀ (d ln0 : Nat) (r : zRl) (i : Nat) (h : zH), ln0 + d = 1601 → ln0 ≤ i → rlO r → cTw h t R r → gR h 1 3 = some t → cEx h n bs tc i → gI h 1 8 = nI (rlU r) → 126 ≤ h.1 → (∀ k, k ∈ R → k < h.1) →
    (∀ h' q, lns n bs d r i = .inr q → lnsS n bs d r i → rlO q.1 → fz h.1 (XCr t) (YCr t) h h' → h'.1 + 2 * rlT r ≤ h.1 + 2 * rlT q.1 → h'.2.1 + 644 * rlT r ≤ h.2.1 + 644 * rlT q.1 → cTw h' t R q.1 → cEx h' n bs tc q.2 → Q (some (.int 1)) h') →
    (∀ h' e, lns n bs d r i = .inl e → lnsS n bs d r i → fz h.1 (XCr t) (YCr t) h h' → h'.1 + 2 * rlT r ≤ h.1 + 18 → h'.2.1 + 644 * rlT r ≤ h.2.1 + 5796 → cLo h' n bs tc e → Q (some (.int 0)) h') → zX mX4_readRoll 12 [.ref 1, .float 0, .int (nI ln0)] [] h Q := by
  intro d
  induction d with
  | zero =>
    intro ln0 r i h hd hi O W r3 P
    have ic := P.1.2.2.1
    have c16 := P.1.2.1.2.1
    omega
  | succ d ih =>
    intro ln0 r i h hd hi O W r3 P g8 l hR H1 H2
    have ic := P.1.2.2.1
    have c16 := P.1.2.1.2.1
    have b31 := (tk_k (n := n) (bs := bs) i).1
    have T8 := rlT_le (r := r)
    -- the end, with a fault
    have flt : ∀ (h1 : zH) (e : zFt) (x : Int32), cLo h1 n bs tc e → lns n bs (d + 1) r i = .inl e → lnsS n bs (d + 1) r i → fz h.1 (XCr t) (YCr t) h h1 → h1.1 + 2 * rlT r ≤ h.1 + 18 → h1.2.1 + 644 * rlT r ≤ h.2.1 + 5796 → zX mX4_readRoll 12 [.ref 1, .float 0, .int x] [] h1 Q := fun h1 e x L el Z F n1 p1 => by
      have b159 : zX mX4_readRoll 159 [.ref 1, .float 0, .float 0] [] h1 Q := bX4_readRoll_159 _ _ _ ⟨L.l.1, br_f L.ng (H2 h1 e el Z F n1 p1 L)⟩
      exact bX4_readRoll_12 _ _ _ _ ⟨fun _ => b159, fun _ => ⟨L.l.1, br_f L.ng b159⟩⟩
    -- behind a line
    have post : (tk n bs i).1 ≠ 30 → ∀ h1 s1 g, fz h.1 (XCr t) (YCr t) h h1 → g ≤ 1 → h1.1 ≤ h.1 + 2 * g → h1.2.1 ≤ h.2.1 + 644 * g → cEi h1 n bs tc s1 → lnS n bs r i → (∀ e, s1 = .inl e → lnB n bs r i = .inl e) → (∀ i', s1 = .inr i' → ∃ r', lnB n bs r i = .inr (r', i') ∧ cTw h1 t R r' ∧ gI h1 1 8 = nI (rlU r') ∧ rlT r' = rlT r + g) → zX mX4_readRoll 146 [.ref 1, .float 0, .int (nI ln0)] [] h1 Q := fun n30 h1 s1 g F1 hg n1 p1 S1 Z1 A1 B1 => by
      have l1 : lns n bs (d + 1) r i = match ln n bs r i with
        | .inl e => .inl e
        | .inr q => lns n bs d q.1 q.2 := by rw [lns, if_neg n30]; rfl
      cases s1 with
      | inl e =>
        have L1 : cLo h1 n bs tc e := S1
        have el : ln n bs r i = .inl e := by unfold ln; rw [A1 e rfl]
        refine bX4_readRoll_146 _ _ _ _ ⟨L1.l.1, l4_take (x := 22) L1 ⟨_, rfl, flt h1 e _ L1 (by rw [l1, el]) (fun _ => ⟨Z1, fun q z => by rw [el] at z; cases z⟩) F1 (by omega) (by omega)⟩⟩
      | inr j =>
        have P1 : cEx h1 n bs tc j := S1
        obtain ⟨r', er, W1, g1, T1⟩ := B1 j rfl
        have O1 := lnB_o O Z1 er
        have T8' := rlT_le (r := r')
        refine bX4_readRoll_146 _ _ _ _ ⟨P1.1.1.1, u4_take (κ := 22) P1 (by decide) (fun y h2 F2 P2 => ⟨_, rfl, ?_⟩) (fun y h2 F2 L2 => ⟨_, rfl, ?_⟩)⟩
        · have el : ln n bs r i = .inr (r', j + 1) := by
            unfold ln; rw [er]
            show (if (tk n bs j).1 = 22 then _ else _) = _
            rw [if_pos y]
          have gt := ln_gt O el
          have F2z : fz h.1 (XCr t) (YCr t) h1 h2 := (F2.z (n := h.1) (by have := F1.1; omega)).mo (Nat.le_refl _) (fun _ _ z => by simp at z) (fun q _ hq => List.mem_append_right _ (List.contains_iff_mem.mp (List.all_eq_true.mp (show YC.all (fun q => YC0.contains q) = true by decide) q hq)))
          have F12 := F1.tr F2z
          rw [nI_1]
          have lz : ∀ Z2 : lnsS n bs d r' (j + 1), lnsS n bs (d + 1) r i := fun Z2 _ => ⟨Z1, fun q z => by rw [el] at z; cases z; exact Z2⟩
          have n12 := F2.1.1
          have p12 := F2.1.2
          have m1 := F1.1
          refine ih (ln0 + 1) r' (j + 1) h2 (by omega) (by have : i < j + 1 := gt; omega) O1 (W1.fr F2 ht (by decide) (by decide)) (by rw [F12.gr (by omega) (YCr_n ht (by decide) (by decide))]; exact r3) P2 (by rw [F2.gi (by simp)]; exact g1) (by omega) (fun k hk => by have := hR k hk; omega) (fun h3 q e3 Z3 O3 F3 n3 p3 W3 P3 => H1 h3 q (by rw [l1, el]; exact e3) (lz Z3) O3 (F12.tr (F3.mo (by omega) (fun _ _ z => z) (fun _ _ z => z))) (by omega) (by omega) W3 P3) (fun h3 e e3 Z3 F3 n3 p3 L3 => H2 h3 e (by rw [l1, el]; exact e3) (lz Z3) (F12.tr (F3.mo (by omega) (fun _ _ z => z) (fun _ _ z => z))) (by omega) (by omega) L3)
        · have el : ln n bs r i = .inl (mp n bs j) := by
            unfold ln; rw [er]
            show (if (tk n bs j).1 = 22 then _ else _) = _
            rw [if_neg y]
          have F2z : fz h.1 (XCr t) (YCr t) h1 h2 := (F2.z (n := h.1) (by have := F1.1; omega)).mo (Nat.le_refl _) (fun _ _ z => by simp at z) (fun q _ hq => List.mem_append_right _ (List.contains_iff_mem.mp (List.all_eq_true.mp (show YC.all (fun q => YC0.contains q) = true by decide) q hq)))
          have n12 := F2.1.1
          have p12 := F2.1.2
          exact flt h2 _ _ L2 (by rw [l1, el]) (fun _ => ⟨Z1, fun q z => by rw [el] at z; cases z⟩) (F1.tr F2z) (by omega) (by omega)
    refine bX4_readRoll_12 _ _ _ _ (br_f (by rw [nI_lit 1600]; exact nI_nlt (by omega) (by decide)) ⟨P.1.1.1, br_t P.2.1 ⟨_, P.1.1.2.1, P.1.1.2.2.2.2.1.1, ?_⟩⟩)
    have hk : ∀ k, k < 2 ^ 31 → (nI (tk n bs i).1 = nI k ↔ (tk n bs i).1 = k) := fun k hk => nI_eq (by omega) hk
    have hk0 : nI (tk n bs i).1 = 0 ↔ (tk n bs i).1 = 0 := hk 0 (by decide)
    rw [P.1.2.2.2.2.1, nI_lit 30, nI_lit 1, nI_lit 2, nI_lit 5, hk 30 (by decide), hk 1 (by decide), hk 2 (by decide), hk 5 (by decide), hk0]
    refine ⟨fun q => ?_, fun n30 => ⟨fun q => ?_, fun q => ?_, fun q => ?_, fun q => ?_, fun a0 a1 a2 a5 => ?_⟩⟩
    · refine bX4_readRoll_159 _ _ _ ⟨P.1.1.1, br_t P.2.1 (H1 h (r, i) (by rw [lns, if_pos q]) (fun z => absurd q z) O (fz.rf (Nat.le_refl _)) (Nat.le_refl _) (Nat.le_refl _) W P)⟩
    · refine bX4_readRoll_84 _ _ _ _ ⟨P.1.1.1, s4_tellName O W ht r3 P q (fun h1 s1 x F1 g1 S1 A1 B1 => ⟨_, rfl, post n30 h1 s1 0 (F1.z (Nat.le_refl _)) (by decide) (by have := F1.1.1; omega) (by have := F1.1.2; omega) S1 (lnS_n (by omega)) A1 (fun j z => ?_)⟩)⟩
      obtain ⟨r', e1, e2, e3⟩ := B1 j z
      exact ⟨r', e1, e2, by rw [g1, g8]; unfold rlU; rw [e3], by unfold rlT; rw [e3]; rfl⟩
    · refine bX4_readRoll_92 _ _ _ _ ⟨P.1.1.1, s4_tellStreet O W ht r3 P q (fun h1 s1 x F1 g1 S1 A1 B1 => ⟨_, rfl, post n30 h1 s1 0 (F1.z (Nat.le_refl _)) (by decide) (by have := F1.1.1; omega) (by have := F1.1.2; omega) S1 (lnS_n (by omega)) A1 (fun j z => ?_)⟩)⟩
      obtain ⟨r', e1, e2, e3⟩ := B1 j z
      exact ⟨r', e1, e2, by rw [g1, g8]; unfold rlU; rw [e3], by unfold rlT; rw [e3]; rfl⟩
    · refine bX4_readRoll_100 _ _ _ _ ⟨P.1.1.1, s4_tellVoter O W ht r3 P q (fun h1 s1 x F1 g1 S1 A1 B1 => ⟨_, rfl, post n30 h1 s1 0 (F1.z (Nat.le_refl _)) (by decide) (by have := F1.1.1; omega) (by have := F1.1.2; omega) S1 (lnS_n (by omega)) A1 (fun j z => ?_)⟩)⟩
      obtain ⟨r', e1, e2, e3⟩ := B1 j z
      exact ⟨r', e1, e2, by rw [g1, g8]; unfold rlU; rw [e3], by unfold rlT; rw [e3]; rfl⟩
    · exact l4_ballotLine O W ht r3 P q g8 l hR (fun h1 s1 g F1 hg n1 p1 S1 Z1 A1 B1 => post n30 h1 s1 g F1 hg n1 p1 S1 Z1 A1 B1)
    · refine bX4_readRoll_140 _ _ _ _ ⟨P.1.1.1, u4_fail (k := 2) P (by decide) (fun h1 F1 L1 => ⟨_, rfl, post n30 h1 (.inl _) 0 ((fc_mo F1 (by simp) (by decide)).z (Nat.le_refl _)) (by decide) (by have := F1.1.1; omega) (by have := F1.1.2; omega) L1 (lnS_n a5) (fun e z => ?_) (fun j z => by cases z)⟩)⟩
      cases z
      exact lnB_full (Or.inr (Or.inr (Or.inr ⟨a0, a1, a2, a5⟩)))
/-- a town's layout -/
def cTo (h : zH) (t : Nat) : Prop := oK h t 10 ∧ (gR h t 0 = some (t + 1) ∧ lK h (t + 1) ∧ aN h (t + 1) = 3) ∧ (gR h t 1 = some (t + 2) ∧ lK h (t + 2) ∧ aN h (t + 2) = 4) ∧ (gR h t 2 = some (t + 3) ∧ lK h (t + 3) ∧ aN h (t + 3) = 8) ∧ (gR h t 3 = some (t + 4) ∧ iK h (t + 4) 0 ∧ aN h (t + 4) = 8) ∧ (gR h t 4 = some (t + 5) ∧ iK h (t + 5) 0 ∧ aN h (t + 5) = 8) ∧ (gR h t 5 = some (t + 6) ∧ rK h (t + 6) 0 ∧ aN h (t + 6) = 8)
theorem cTw.o (W : cTw h t R r) : cTo h t := by
  obtain ⟨⟨w0, ⟨a1, a2, a3, -⟩, ⟨b1, b2, b3, -⟩, c1, c2, c3, -⟩, ⟨d, e, f⟩, -⟩ := W
  exact ⟨w0, ⟨a1, a2, a3⟩, ⟨b1, b2, b3⟩, ⟨c1, c2, c3⟩, d, e, f⟩
theorem cTo.fz {m : Nat} {X : List Nat} {Y : List (Nat × Nat)} (T : cTo h t) (F : fz m X Y h h') (ht : t + 7 ≤ m) (hY : ∀ f, f < 6 → (t, f) ∉ Y) : cTo h' t := by
  obtain ⟨w0, ⟨a1, a2, a3⟩, ⟨b1, b2, b3⟩, ⟨c1, c2, c3⟩, ⟨d1, d2, d3⟩, ⟨e1, e2, e3⟩, f1, f2, f3⟩ := T
  have lt : ∀ j, j < 7 → t + j < m := fun j hj => by omega
  have t0 : t < m := by omega
  exact ⟨F.o w0, ⟨by rw [F.gr t0 (hY 0 (by decide))]; exact a1, F.lk a2, by rw [F.n (lt 1 (by decide))]; exact a3⟩, ⟨by rw [F.gr t0 (hY 1 (by decide))]; exact b1, F.lk b2, by rw [F.n (lt 2 (by decide))]; exact b3⟩, ⟨by rw [F.gr t0 (hY 2 (by decide))]; exact c1, F.lk c2, by rw [F.n (lt 3 (by decide))]; exact c3⟩, ⟨by rw [F.gr t0 (hY 3 (by decide))]; exact d1, F.ik d2, by rw [F.n (lt 4 (by decide))]; exact d3⟩, ⟨by rw [F.gr t0 (hY 4 (by decide))]; exact e1, F.ik e2, by rw [F.n (lt 5 (by decide))]; exact e3⟩, by rw [F.gr t0 (hY 5 (by decide))]; exact f1, F.rk f2, by rw [F.n (lt 6 (by decide))]; exact f3⟩
/-- the town is emptied -/
theorem s10_clear (T : cTo h t) (ht : t = 70 ∨ t = 77) (H : ∀ h', fr [t + 6] [(t, 6), (t, 7), (t, 8), (t, 9)] h h' → cTw h' t R rl0 → Q none h') : zC mX10_clear [.ref t] h Q := by
  obtain ⟨w0, ⟨a1, a2, a3⟩, ⟨b1, b2, b3⟩, ⟨c1, c2, c3⟩, ⟨d1, d2, d3⟩, ⟨e1, e2, e3⟩, f1, f2, f3⟩ := T
  refine nX10_clear _ _ _ (bX10_clear_0 _ _ _ ⟨w0, fun h2 q2 h4 q4 h6 q6 h8 q8 => ?_⟩)
  have F2 : fr [] [(t, 6), (t, 7), (t, 8), (t, 9)] h h2 := by rw [q2]; exact fr_pF (by simp) w0 rfl rfl
  have F4 : fr [] [(t, 6), (t, 7), (t, 8), (t, 9)] h2 h4 := by rw [q4]; exact fr_pF (by simp) (F2.o w0) rfl rfl
  have F6 : fr [] [(t, 6), (t, 7), (t, 8), (t, 9)] h4 h6 := by rw [q6]; exact fr_pF (by simp) (F4.o (F2.o w0)) rfl rfl
  have F8 : fr [] [(t, 6), (t, 7), (t, 8), (t, 9)] h6 h8 := by rw [q8]; exact fr_pF (by simp) (F6.o (F4.o (F2.o w0))) rfl rfl
  have FA := F2.tr (F4.tr (F6.tr F8))
  have o2 := F2.o w0
  have o4 := F4.o o2
  have o6 := F6.o o4
  have g6 : gI h8 t 6 = nI 0 := by rw [q8, gI_pF_n (Or.inr (by decide)), q6, gI_pF_n (Or.inr (by decide)), q4, gI_pF_n (Or.inr (by decide)), q2, gI_pF_s w0 (by decide)]; rfl
  have g7 : gI h8 t 7 = nI 0 := by rw [q8, gI_pF_n (Or.inr (by decide)), q6, gI_pF_n (Or.inr (by decide)), q4, gI_pF_s o2 (by decide)]; rfl
  have g8 : gI h8 t 8 = nI 0 := by rw [q8, gI_pF_n (Or.inr (by decide)), q6, gI_pF_s o4 (by decide)]; rfl
  have g9 : gI h8 t 9 = nI 0 := by rw [q8, gI_pF_s o6 (by decide)]; rfl
  have nY : ∀ f, f < 6 → (t, f) ∉ [(t, 6), (t, 7), (t, 8), (t, 9)] := fun f hf z => by simp at z; omega
  have go : ∀ (d j : Nat) (h0 : zH), j + d = 8 → fr [t + 6] [] h8 h0 → (∀ k, k < j → aR h0 (t + 6) k = none) → zX mX10_clear 22 [.ref t, .int (nI j)] [] h0 Q := by
    intro d
    induction d with
    | zero =>
      intro j h0 hj F Z
      have : j = 8 := by omega
      subst this
      have G : fr [t + 6] [(t, 6), (t, 7), (t, 8), (t, 9)] h h0 := (FA.mo (by simp) (by simp)).tr (F.mo (by simp) (by simp))
      have r5 : gR h0 t 5 = some (t + 6) := by rw [G.gr (nY 5 (by decide))]; exact f1
      refine bX10_clear_22 _ _ _ _ ⟨G.o w0, _, r5, G.rk f2, br_t (by rw [G.n, f3]; exact nI_le (Nat.le_refl _) (by decide)) (H h0 G ⟨⟨G.o w0, ⟨by rw [G.gr (nY 0 (by decide))]; exact a1, G.lk a2, by rw [G.n]; exact a3, by rw [F.gi (by simp)]; exact g6, fun j hj => absurd hj (Nat.not_lt_zero j)⟩, ⟨by rw [G.gr (nY 1 (by decide))]; exact b1, G.lk b2, by rw [G.n]; exact b3, by rw [F.gi (by simp)]; exact g7, fun j hj => absurd hj (Nat.not_lt_zero j)⟩, by rw [G.gr (nY 2 (by decide))]; exact c1, G.lk c2, by rw [G.n]; exact c3, by rw [F.gi (by simp)]; exact g8, fun j hj => absurd hj (Nat.not_lt_zero j)⟩, ⟨⟨by rw [G.gr (nY 3 (by decide))]; exact d1, G.ik d2, by rw [G.n]; exact d3⟩, ⟨by rw [G.gr (nY 4 (by decide))]; exact e1, G.ik e2, by rw [G.n]; exact e3⟩, ⟨r5, G.rk f2, by rw [G.n]; exact f3⟩⟩, fun v hv => absurd hv (Nat.not_lt_zero v), ⟨0, by rw [F.gi (by simp)]; exact g9, by decide, fun v => by rw [Nat.zero_testBit]; rfl⟩, fun v hv => ⟨fun _ => Z v hv, fun z => by cases z⟩⟩)⟩
    | succ d ih =>
      intro j h0 hj F Z
      have G : fr [t + 6] [(t, 6), (t, 7), (t, 8), (t, 9)] h h0 := (FA.mo (by simp) (by simp)).tr (F.mo (by simp) (by simp))
      have cj : (nI j).toNatClampNeg = j := nI_clamp (by omega)
      refine bX10_clear_22 _ _ _ _ ⟨G.o w0, _, by rw [G.gr (nY 5 (by decide))]; exact f1, G.rk f2, br_f (by rw [G.n, f3]; exact nI_ge (by omega) (by decide)) ⟨by rw [G.n, f3]; exact vp_in_nI (by omega) (by decide), fun h6' e6' => ?_⟩⟩
      rw [cj] at e6'
      rw [nI_1]
      refine ih (j + 1) h6' (by omega) (F.tr (by rw [e6']; exact fr_pR (by simp))) (fun k hk => ?_)
      by_cases z : k = j
      · rw [z, e6']; exact aR_pR_s ⟨_, G.rk f2⟩
      · rw [e6', aR_pR_n (Or.inr z)]; exact Z k (by omega)
  exact go 8 0 h8 rfl fr.rf (fun k hk => absurd hk (Nat.not_lt_zero k))
/-- the reader begins -/
theorem s4_begin {w : Nat} (L : cRr h) (T : cTp h n bs) (H : ∀ h' tc, fr [5, 6, 7] [(1, 3), (1, 8), (1, 12), (1, 13), (2, 6), (2, 7), (2, 8), (2, 9), (2, 10)] h h' → cEx h' n bs tc 0 → gR h' 1 3 = some t → gI h' 1 8 = nI w → Q none h') : zC mX4_begin [.ref 1, .ref t, .int (nI w)] h Q := by
  have o1 := L.1
  refine nX4_begin _ _ _ _ _ (bX4_begin_0 _ _ _ _ _ ⟨o1, fun h2 e2 h4 e4 h6 e6 h8 e8 => ?_⟩)
  have F2 : fr [] [(1, 3), (1, 8), (1, 12), (1, 13)] h h2 := by rw [e2]; exact fr_pF (by simp) o1 rfl rfl
  have F4 : fr [] [(1, 3), (1, 8), (1, 12), (1, 13)] h2 h4 := by rw [e4]; exact fr_pF (by simp) (F2.o o1) rfl rfl
  have F6 : fr [] [(1, 3), (1, 8), (1, 12), (1, 13)] h4 h6 := by rw [e6]; exact fr_pF (by simp) (F4.o (F2.o o1)) rfl rfl
  have F8 : fr [] [(1, 3), (1, 8), (1, 12), (1, 13)] h6 h8 := by rw [e8]; exact fr_pF (by simp) (F6.o (F4.o (F2.o o1))) rfl rfl
  have FA := F2.tr (F4.tr (F6.tr F8))
  have o2 := F2.o o1
  have o4 := F4.o o2
  have o6 := F6.o o4
  have L8 : cRr h8 := L.fr FA (by simp) (by decide) (by simp) (by simp) (by simp)
  have T8 : cTp h8 n bs := ⟨by rw [FA.gi (by simp)]; exact T.1, T.2.1, fun k hk => by rw [FA.i (by simp)]; exact T.2.2 k hk⟩
  refine ⟨_, L8.2.1, L8.2.2.2.2.1.1, s8_rewind L8.2.2.2.2 T8 (fun h9 c F9 C9 => ⟨rfl, H h9 c ((FA.mo (by simp) (by simp)).tr (F9.mo (by simp) (by simp))) ⟨⟨L8.fr F9 (by simp) (by decide) (by simp) (by simp) (by simp), C9⟩, ?_, ?_⟩ ?_ ?_⟩)⟩
  · rw [F9.gi (by simp), e8, gI_pF_n (Or.inr (by decide)), e6, gI_pF_s o4 (by decide)]
  · rw [F9.gi (by simp), e8, gI_pF_s o6 (by decide)]
  · rw [F9.gr (by simp), e8, gR_pF_n (Or.inr (by decide)), e6, gR_pF_n (Or.inr (by decide)), e4, gR_pF_n (Or.inr (by decide)), e2]; exact gR_pF_s o1 (by decide)
  · rw [F9.gi (by simp), e8, gI_pF_n (Or.inr (by decide)), e6, gI_pF_n (Or.inr (by decide)), e4, gI_pF_s o2 (by decide)]
def XRR (t : Nat) : List Nat := [5, 6, 7] ++ XCr t
def YRR (t : Nat) : List (Nat × Nat) := [(1, 3), (2, 6)] ++ YCr t
/-- a roll -/
theorem s4_readRoll (T0 : cTo h t) (ht : t = 70 ∨ t = 77) (L : cRr h) (T : cTp h n bs) (l : 126 ≤ h.1) (hR : ∀ k, k ∈ R → k < h.1)
    (H1 : ∀ h' q, lns n bs 1601 rl0 0 = .inr q → lnsS n bs 1601 rl0 0 → rlO q.1 → fz h.1 (XRR t) (YRR t) h h' → h'.1 ≤ h.1 + 18 → h'.2.1 ≤ h.2.1 + 5796 → cTw h' t R q.1 → cGd h' → Q (some (.int 1)) h')
    (H2 : ∀ h' e, lns n bs 1601 rl0 0 = .inl e → lnsS n bs 1601 rl0 0 → fz h.1 (XRR t) (YRR t) h h' → h'.1 ≤ h.1 + 18 → h'.2.1 ≤ h.2.1 + 5796 → cFl h' e → Q (some (.int 0)) h') : zC mX4_readRoll [.ref 1, .ref t] h Q := by
  refine nX4_readRoll _ _ _ _ (bX4_readRoll_0 _ _ _ _ ⟨T0.1, s10_clear (R := R) T0 ht (fun h2 F2 W2 => ⟨rfl, F2.o L.1, ?_⟩)⟩)
  have L2 : cRr h2 := L.fr F2 (by simp <;> omega) (by simp <;> omega) (by simp <;> omega) (by simp <;> omega) (by simp <;> omega)
  have T2 : cTp h2 n bs := ⟨by rw [F2.gi (by simp <;> omega)]; exact T.1, T.2.1, fun k hk => by rw [F2.i (by simp <;> omega)]; exact T.2.2 k hk⟩
  rw [show (0 : Int32) = nI 0 from rfl]
  refine s4_begin (t := t) (w := 0) L2 T2 (fun h4 tc F4 P4 r4 u4 => ⟨rfl, ?_⟩)
  have W4 : cTw h4 t R rl0 := W2.fr F4 ht (by decide) (by decide)
  have FX : fr (XRR t) (YRR t) h h4 := (F2.mo (by simp [XRR, XCr]) (by simp [YRR, YCr])).tr (F4.mo (by simp [XRR]) (by simp [YRR, YCr, YC0]))
  have n4 := FX.1.1
  have p4 := FX.1.2
  have u0 : rlU rl0 = 0 := by show sm (fun _ => 0) 0 8 = 0; decide
  have t0 : rlT rl0 = 0 := by show sm (fun _ => 0) 0 8 = 0; decide
  have up : ∀ {h5 : zH}, fz h4.1 (XCr t) (YCr t) h4 h5 → fz h.1 (XRR t) (YRR t) h h5 := fun F5 => (FX.z (Nat.le_refl _)).tr (F5.mo (by omega) (fun k _ hk => List.mem_append_right _ hk) (fun q _ hq => List.mem_append_right _ hq))
  refine l4_lines ht 1601 0 rl0 0 h4 rfl (Nat.le_refl _) rlO_0 W4 r4 P4 (by rw [u0]; exact u4) (by omega) (fun k hk => by have := hR k hk; omega) (fun h5 q eq Z5 O5 F5 n5 p5 W5 P5 => H1 h5 q eq Z5 O5 (up F5) (by have := rlT_le (r := q.1); omega) (by have := rlT_le (r := q.1); omega) W5 P5.2) (fun h5 e ee Z5 F5 n5 p5 L5 => H2 h5 e ee Z5 (up F5) (by omega) (by omega) L5.2)
end

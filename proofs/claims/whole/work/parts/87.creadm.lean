/-! ===== the class's reader: a mark read ===== -/
section
variable {h h' : zH} {Q : Option Value → zH → Prop} {n tc i m w u own lim ot t V0 N0 : Nat} {bs : Nat → Nat} {c : Nat → zOp} {I : List (Nat × Bool)} {K : zKs}
theorem s4_readMark (O : kyO K) (hI : I.length ≤ 7) (hm : m ≤ 640) (hu : u ≤ lim) (hl : ot + lim = 80) (V : cEv h t K own) (X : cSt h n bs tc ot (0, [], I, (m, c), (i, u)))
    (H1 : ∀ s', sMk n bs K own lim I m c i u = .inr s' → ∀ h' x, fr XP YX h h' → cSt h' n bs tc ot s' → Q (some (.int x)) h')
    (H2 : ∀ e, sMk n bs K own lim I m c i u = .inl e → ∀ h' x, fr XP YX h h' → cLo h' n bs tc e → Q (some (.int x)) h') : zC mX4_readMark [.ref 1] h Q := by
  obtain ⟨P, av, as_, D, bv, bS⟩ := X
  dsimp only at P bv bS
  have O8 := O.2.2.1
  have O4 := O.2.1.1
  have D' : cWd h (I.map ifK) m c I.length (ot + u) av as_ := by
    have es : cStk (0, [], I, (m, c), (i, u)) = I.map ifK := rfl
    have ew : wth (0, [], I, (m, c), (i, u)) = I.length := by
      show 0 + (if (0 : Nat) = 1 ∨ (0 : Nat) = 2 then 1 else 0) + I.length = _
      rw [if_neg (by decide)]; omega
    rw [es, ew] at D
    exact D
  have b31 := (tk_k (n := n) (bs := bs) i).1
  unfold sMk at H1 H2
  simp only [] at H1 H2
  -- the step is put, all is well
  have nst : ∀ (o : zOp) (i' : Nat) (av' as' : Nat) (h9 : zH), cEx h9 n bs tc i' → cWd h9 (I.map ifK) (m + 1) (pE c m o) I.length (ot + u + 1) av' as' → av' < 256 → as' < 256 → (∀ v, av'.testBit v = (akV m c v || ((o.1 == 2 || o.1 == 13) && o.2.2 == v))) → (∀ v, as'.testBit v = (akS m c v || ((o.1 == 1 || o.1 == 14 || o.1 == 15) && o.2.1 == v))) → cSt h9 n bs tc ot (3, [], I, (m + 1, pE c m o), (i', u + 1)) := fun o i' av' as' h9 P9 D9 a1 a2 a3 a4 => by
    refine ⟨P9, av', as', ?_, ⟨a1, fun v => ?_⟩, ⟨a2, fun v => ?_⟩⟩
    · have ew : wth (3, [], I, (m + 1, pE c m o), (i', u + 1)) = I.length := by
        show 0 + (if (3 : Nat) = 1 ∨ (3 : Nat) = 2 then 1 else 0) + I.length = _
        rw [if_neg (by decide)]; omega
      rw [ew]
      exact D9
    · rw [a3]; exact akV_e.symm
    · rw [a4]; exact akS_e.symm
  refine nX4_readMark _ _ _ (bX4_readMark_0 _ _ _ ⟨P.1.1.1, _, P.1.1.2.1, P.1.1.2.2.2.2.1.1, ?_⟩)
  rw [P.1.2.2.2.2.1]
  have hk : ∀ k, k < 2 ^ 31 → (nI (tk n bs i).1 = nI k ↔ (tk n bs i).1 = k) := fun k hk => nI_eq (by omega) hk
  rw [nI_lit 9, nI_lit 10, nI_lit 11, nI_lit 13, nI_lit 20, hk 9 (by decide), hk 10 (by decide), hk 11 (by decide), hk 13 (by decide), hk 20 (by decide)]
  have most : ((tk n bs i).1 = 11 ∨ (tk n bs i).1 = 13) → zX mX4_readMark 194 [.ref 1, .int (nI (tk n bs i).1), .float 0, .float 0, .float 0] [] h Q := fun q => by
    rw [if_neg (by omega), if_neg (by omega), if_neg (by omega), if_pos q] at H1 H2
    have a217 : ∀ (h0 : zH) (x : Int32) (e : zFt), cLo h0 n bs tc e → (∀ h' y, fr XP YP h0 h' → cLo h' n bs tc e → Q (some (.int y)) h') → zX mX4_readMark 217 [.ref 1, .int (nI (tk n bs i).1), .float 0, .float 0, .float 0] [.int x] h0 Q := fun h0 x e L hq =>
      bX4_readMark_217 _ _ _ _ _ ⟨fun _ => ⟨L.l.1, l4_addStep L (fun h3 F3 L3 => ⟨rfl, fun _ => hq h3 _ F3 L3, fun _ => hq h3 _ F3 L3⟩)⟩, fun _ => ⟨L.l.1, l4_addStep L (fun h3 F3 L3 => ⟨rfl, fun _ => hq h3 _ F3 L3, fun _ => hq h3 _ F3 L3⟩)⟩⟩
    refine bX4_readMark_194 _ _ _ _ ⟨P.1.1.1, e4_countUnit P D' (by omega) (fun q80 h2 F2 P2 D2 => ⟨_, rfl, br_f (by decide +kernel) ⟨P2.1.1.1, e4_take (κ := (tk n bs i).1) P2 D2 (by omega) (fun _ h6 F6 P6 D6 => ⟨_, rfl, br_f (by decide +kernel) ⟨P6.1.1.1, ?_⟩⟩) (fun z => absurd rfl z)⟩⟩) (fun q80 h2 F2 L2 => ⟨_, rfl, br_t rfl (bX4_readMark_216 _ _ _ _ (a217 h2 _ _ L2 (fun h' y F L => H2 _ (if_pos (by omega)) h' y (F2.tr (F.mo (by simp) (by simp))) L)))⟩)⟩
    rw [if_neg (show ¬ u = lim by omega)] at H1 H2
    have V6 := (V.fr (X := []) F2).fr (X := []) F6
    refine e4_takeStreet P6 D6 V6 O (fun h9 p ep hp F9 P9 D9 => ⟨_, rfl, ?_⟩) (fun h9 e ee F9 L9 => ⟨_, rfl, a217 h9 _ e L9 (fun h' y F L => H2 e (by rw [ee]) h' y (F2.tr (F6.tr (F9.tr (F.mo (by simp) (by simp))))) L)⟩)
    rw [ep] at H1
    have fin : ∀ (kk : Nat), kk = (if (tk n bs i).1 = 11 then 14 else 15) → zC mX4_addStep [.ref 1, .int (nI kk), .int (nI p.2), .int 0] h9 (fun r0 h3 => r0 = none ∧ ((nI p.2 < 0 → (Q (some (.int (0 : Int32))) h3)) ∧ (¬ (nI p.2 < 0) → (Q (some (.int (1 : Int32))) h3)))) := fun kk ek => by
      have r := e4_addStep (o := (kk, p.2, 0)) P9 D9 (by omega) (Q := (fun r0 h3 => r0 = none ∧ ((nI p.2 < 0 → (Q (some (.int (0 : Int32))) h3)) ∧ (¬ (nI p.2 < 0) → (Q (some (.int (1 : Int32))) h3))))) (fun h3 F3 P3 D3 => ⟨rfl, br_f (nI_pos (by omega)) ?_⟩)
      · dsimp only at r
        rw [nI_0] at r
        exact r
      · refine H1 _ rfl h3 _ (F2.tr (F6.tr (F9.tr F3))) ?_
        rw [← ek]
        have k14 : kk = 14 ∨ kk = 15 := by rw [ek]; split <;> omega
        refine nst (kk, p.2, 0) p.1 av (as_ ||| 2 ^ p.2) h3 P3 D3 bv.1 (or_lt8 bS.1 (by omega)) (fun v => ?_) (fun v => ?_)
        · rw [bv.2 v]
          rcases k14 with z | z <;> rw [z] <;> exact (Bool.or_false _).symm
        · rw [or_bit, bS.2 v]
          rcases k14 with z | z <;> rw [z] <;> rfl
    refine bX4_readMark_217 _ _ _ _ _ ?_
    rw [nI_lit 11, hk 11 (by decide)]
    exact ⟨fun z => ⟨P9.1.1.1, fin 14 (by rw [if_pos z])⟩, fun z => ⟨P9.1.1.1, fin 15 (by rw [if_neg z])⟩⟩
  refine ⟨fun q => ?_, fun q => ?_, fun q => most (Or.inl q), fun q => most (Or.inr q), fun q => ?_, fun a1 a2 a3 a4 a5 => ?_⟩
  · rw [if_neg (by omega), if_pos q] at H1 H2
    refine bX4_readMark_123 _ _ _ _ ⟨P.1.1.1, e4_step0 (k := 12) P D' (by omega) (fun h2 F2 P2 D2 => ⟨rfl, P2.1.1.1, e4_countUnit P2 D2 (by omega) (fun q80 h4 F4 P4 D4 => ⟨_, rfl, br_f (by decide +kernel) ⟨P4.1.1.1, e4_take (κ := (tk n bs i).1) P4 D4 (by omega) (fun _ h8 F8 P8 D8 => ⟨_, rfl, br_f (by decide +kernel) ?_⟩) (fun z => absurd rfl z)⟩⟩) (fun q80 h4 F4 L4 => ⟨_, rfl, br_t rfl ?_⟩)⟩)⟩
    · rw [if_neg (show ¬ u = lim by omega)] at H1
      exact H1 _ rfl h8 _ (F2.tr (F4.tr F8)) (nst (12, 0, 0) (i + 1) av as_ h8 P8 D8 bv.1 bS.1 (fun v => by rw [bv.2 v]; exact (Bool.or_false _).symm) (fun v => by rw [bS.2 v]; exact (Bool.or_false _).symm))
    · rw [if_pos (show u = lim by omega)] at H2
      exact H2 _ rfl h4 _ (F2.tr F4) L4
  · rw [if_neg (by omega), if_neg (by omega), if_pos q] at H1 H2
    have a175 : ∀ (h0 : zH) (x : Int32) (e : zFt), cLo h0 n bs tc e → (∀ h' y, fr XP YP h0 h' → cLo h' n bs tc e → Q (some (.int y)) h') → zX mX4_readMark 175 [.ref 1, .float 0, .float 0, .float 0, .float 0] [.int x] h0 Q := fun h0 x e L hq =>
      bX4_readMark_175 _ _ _ _ ⟨L.l.1, l4_addStep L (fun h3 F3 L3 => ⟨rfl, fun _ => hq h3 _ F3 L3, fun _ => hq h3 _ F3 L3⟩)⟩
    refine bX4_readMark_152 _ _ _ _ ⟨P.1.1.1, e4_countUnit P D' (by omega) (fun q80 h2 F2 P2 D2 => ⟨_, rfl, br_f (by decide +kernel) ⟨P2.1.1.1, e4_take (κ := (tk n bs i).1) P2 D2 (by omega) (fun _ h6 F6 P6 D6 => ⟨_, rfl, br_f (by decide +kernel) ⟨P6.1.1.1, ?_⟩⟩) (fun z => absurd rfl z)⟩⟩) (fun q80 h2 F2 L2 => ⟨_, rfl, br_t rfl (bX4_readMark_174 _ _ _ (a175 h2 _ _ L2 (fun h' y F L => H2 _ (if_pos (by omega)) h' y (F2.tr (F.mo (by simp) (by simp))) L)))⟩)⟩
    rw [if_neg (show ¬ u = lim by omega)] at H1 H2
    have V6 := (V.fr (X := []) F2).fr (X := []) F6
    refine e4_takeOther P6 D6 V6 O (fun h9 v ev hv F9 P9 D9 => ⟨_, rfl, ?_⟩) (fun h9 e ee F9 L9 => ⟨_, rfl, a175 h9 _ e L9 (fun h' y F L => H2 e (by rw [ee]) h' y (F2.tr (F6.tr (F9.tr (F.mo (by simp) (by simp))))) L)⟩)
    rw [ev] at H1
    refine bX4_readMark_175 _ _ _ _ ⟨P9.1.1.1, ?_⟩
    have r := e4_addStep (o := (13, 0, v)) P9 D9 (by omega) (Q := (fun r0 h3 => r0 = none ∧ ((nI v < 0 → (Q (some (.int (0 : Int32))) h3)) ∧ (¬ (nI v < 0) → (Q (some (.int (1 : Int32))) h3))))) (fun h3 F3 P3 D3 => ⟨rfl, br_f (nI_pos (by omega)) ?_⟩)
    · dsimp only at r
      rw [nI_0] at r
      exact r
    · exact H1 _ rfl h3 _ (F2.tr (F6.tr (F9.tr F3))) (nst (13, 0, v) (i + 2) (av ||| 2 ^ v) as_ h3 P3 D3 (or_lt8 bv.1 (by omega)) bS.1 (fun x => by rw [or_bit, bv.2 x]; rfl) (fun x => by rw [bS.2 x]; exact (Bool.or_false _).symm))
  · rw [if_pos q] at H1 H2
    have a102 : ∀ (h0 : zH) (x : Int32) (e : zFt), cLo h0 n bs tc e → (∀ h' y, fr XP YP h0 h' → cLo h' n bs tc e → Q (some (.int y)) h') → zX mX4_readMark 102 [.ref 1, .float 0, .float 0, .float 0, .float 0] [.int x] h0 Q := fun h0 x e L hq =>
      bX4_readMark_102 _ _ _ _ ⟨L.l.1, l4_addStep L (fun h3 F3 L3 => ⟨rfl, fun _ => hq h3 _ F3 L3, fun _ => hq h3 _ F3 L3⟩)⟩
    refine bX4_readMark_72 _ _ _ ⟨P.1.1.1, e4_countUnit P D' (by omega) (fun q80 h2 F2 P2 D2 => ⟨_, rfl, br_f (by decide +kernel) ⟨P2.1.1.1, ?_⟩⟩) (fun q80 h2 F2 L2 => ⟨_, rfl, br_t rfl (a102 h2 _ _ L2 (fun h' y F L => H2 _ (if_pos (by omega)) h' y (F2.tr (F.mo (by simp) (by simp))) L))⟩)⟩
    rw [if_neg (show ¬ u = lim by omega)] at H1 H2
    have V2 := V.fr (X := []) F2
    refine ⟨_, V2.1, V2.2.2.1.1, _, V2.2.2.1.2.1.1, e4_takeName P2 D2 V2 O (fun h9 v ev hv F9 P9 D9 => ⟨_, rfl, ?_⟩) (fun h9 e ee F9 L9 => ⟨_, rfl, a102 h9 _ e L9 (fun h' y F L => H2 e (by rw [ee]) h' y (F2.tr (F9.tr (F.mo (by simp) (by simp)))) L)⟩)⟩
    rw [ev] at H1
    have O3 := O.1.1
    refine bX4_readMark_102 _ _ _ _ ⟨P9.1.1.1, ?_⟩
    rw [nI_1]
    have r := e4_addStep (o := (12, 0, v + 1)) P9 D9 (by omega) (Q := (fun r0 h3 => r0 = none ∧ ((nI v < 0 → (Q (some (.int (0 : Int32))) h3)) ∧ (¬ (nI v < 0) → (Q (some (.int (1 : Int32))) h3))))) (fun h3 F3 P3 D3 => ⟨rfl, br_f (nI_pos (by omega)) ?_⟩)
    · dsimp only at r
      rw [nI_0] at r
      exact r
    · exact H1 _ rfl h3 _ (F2.tr (F9.tr F3)) (nst (12, 0, v + 1) (i + 1) av as_ h3 P3 D3 bv.1 bS.1 (fun x => by rw [bv.2 x]; exact (Bool.or_false _).symm) (fun x => by rw [bS.2 x]; exact (Bool.or_false _).symm))
  · rw [if_neg a5, if_neg a1, if_neg a2, if_neg (by omega)] at H2
    exact bX4_readMark_250 _ _ _ ⟨P.1.1.1, e4_fail (k := 2) P (by decide) (fun h8 F8 L8 => ⟨_, rfl, Or.inl rfl, H2 _ rfl h8 _ F8 L8⟩)⟩
end

/-! ===== the class reads a line: what is told ===== -/
section
variable {h h' : zH} {Q : Option Value → zH → Prop} {n tc i t : Nat} {bs : Nat → Nat} {R : List Nat} {r : zRl} {K : zKs} {s : zFt ⊕ Nat}
def cEi (h : zH) (n : Nat) (bs : Nat → Nat) (tc : Nat) : zFt ⊕ Nat → Prop
  | .inl e => cLo h n bs tc e
  | .inr i => cEx h n bs tc i
def XCr (t : Nat) : List Nat := [8, 9, t + 1, t + 2, t + 3, t + 4, t + 5, t + 6]
def YC0 : List (Nat × Nat) := [(1, 4), (1, 5), (1, 6), (1, 7), (1, 8), (1, 9), (1, 10), (1, 11), (1, 12), (1, 13), (2, 7), (2, 8), (2, 9), (2, 10)]
def YCr (t : Nat) : List (Nat × Nat) := [(t, 6), (t, 7), (t, 8), (t, 9)] ++ YC0
theorem rlT_B {v : Nat} {b : zBl} (hv : v < 8) (ht : r.2.1 v = false) : rlT (rB r v b) = rlT r + 1 := by
  have su := sm_up (f := fun x => if r.2.1 x = true then 1 else 0) (v := v) (x := 1) 8 0
  rw [if_pos (show 0 ≤ v ∧ v < 0 + 8 by omega), if_pos (show 0 ≤ v ∧ v < 0 + 8 by omega)] at su
  have f0 : (if r.2.1 v = true then 1 else 0) = 0 := by rw [ht]; rfl
  rw [f0] at su
  have e2 : rlT (rB r v b) = sm (va_up (fun x => if r.2.1 x = true then 1 else 0) v 1) 0 8 := by
    refine sm_congr 8 0 (fun x _ _ => ?_)
    show (if va_up r.2.1 v true x = true then 1 else 0) = _
    by_cases y : x = v
    · rw [y, up_s, up_s]; rfl
    · rw [up_n y, up_n y]
  rw [e2]
  have e3 : sm (fun x => if r.2.1 x = true then 1 else 0) 0 8 = rlT r := rfl
  omega
theorem rlU_B {v : Nat} {b : zBl} (hv : v < 8) (ht : r.2.2 v = bl0) : rlU (rB r v b) = rlU r + b.2.2 := by
  have su := sm_up (f := fun v => (r.2.2 v).2.2) (v := v) (x := b.2.2) 8 0
  rw [if_pos (show 0 ≤ v ∧ v < 0 + 8 by omega), if_pos (show 0 ≤ v ∧ v < 0 + 8 by omega)] at su
  have b0 : (r.2.2 v).2.2 = 0 := by rw [ht]; rfl
  rw [b0] at su
  have e : rlU (rB r v b) = sm (va_up (fun v => (r.2.2 v).2.2) v b.2.2) 0 8 := by
    refine sm_congr 8 0 (fun x _ _ => ?_)
    show (va_up r.2.2 v b x).2.2 = _
    by_cases y : x = v
    · rw [y, up_s, up_s]
    · rw [up_n y, up_n y]
  rw [e]
  have : sm (fun v => (r.2.2 v).2.2) 0 8 = rlU r := rfl
  omega
theorem rlT_le : rlT r ≤ 8 := by
  have := sm_le (fun x => if r.2.1 x = true then 1 else 0) 1 8 0 (fun x _ _ => by split <;> omega)
  exact this
theorem fc_mo {X : List Nat} {Y : List (Nat × Nat)} (F : fr X Y h h') (hX : ∀ k, k ∈ X → k ∈ XCr t) (hY : Y.all (fun q => YC0.contains q) = true) : fr (XCr t) (YCr t) h h' :=
  F.mo hX (fun q hq => List.mem_append_right _ (List.contains_iff_mem.mp (List.all_eq_true.mp hY q hq)))
theorem tw_ad (W : cTw h t R r) : ∀ j, j < r.1.1.2.2.1 → aL h (t + 3) j = lN (r.1.1.2.2.2 j) := W.1.2.2.2.2.2.2.2
/-- a name's line -/
theorem s4_tellName (O : rlO r) (W : cTw h t R r) (ht : t = 70 ∨ t = 77) (r3 : gR h 1 3 = some t) (P : cEx h n bs tc i) (k0 : (tk n bs i).1 = 0) (H : ∀ h' s' x, fr (XCr t) (YCr t) h h' → gI h' 1 8 = gI h 1 8 → cEi h' n bs tc s' → (∀ e, s' = .inl e → lnB n bs r i = .inl e) → (∀ i', s' = .inr i' → ∃ r', lnB n bs r i = .inr (r', i') ∧ cTw h' t R r' ∧ r'.2 = r.2) → Q (some (.int x)) h') : zC mX4_tellName [.ref 1] h Q := by
  have n3 := O.1.1.1
  obtain ⟨w0, ⟨w1, w2, w3, w4, w5⟩, -⟩ := W.1
  refine nX4_tellName _ _ _ (bX4_tellName_0 _ _ _ ⟨P.1.1.1, _, r3, w0, ?_⟩)
  rw [w4, nI_lit 3, nI_ltI (by omega) (by decide)]
  refine ⟨fun q => ⟨_, P.1.1.2.1, P.1.1.2.2.2.2.1.1, u4_adv P (by omega) (by omega) (fun h7 F7 P7 => ⟨rfl, P7.1.1.1, t, by rw [F7.gr (by simp)]; exact r3, F7.o w0, t + 1, by rw [F7.gr (by simp <;> omega)]; exact w1, ?_⟩)⟩, fun q => u4_fail (k := 2) P (by decide) (fun h' F L => ⟨_, rfl, Or.inl rfl, H h' (.inl _) _ (fc_mo F (by simp) (by decide)) (F.gi (by simp)) L (fun e z => by cases z; unfold lnB; rw [if_pos k0, if_pos (by omega)]; rfl) (fun j z => by cases z)⟩)⟩
  have W7 := W.fr F7 ht (by decide) (by decide)
  have eL : lnB n bs r i = match tkF (tk n bs (i + 1)) r.1.1.1.2 r.1.1.1.1 with
    | .inl e => .inl e
    | .inr x => .inr (rN r x, i + 2) := by
    unfold lnB
    rw [if_pos k0, if_neg (by omega)]
    rfl
  rw [F7.gi (by simp <;> omega), w4]
  refine u4_takeNew P7 (by omega) (F7.lk w2) (by rw [F7.n]; exact w3) (by decide) q W7.1.2.1.2.2.2.2 (fun j hj => O.1.1.2.1 j hj) (fun x h12 ft F12 P12 a12 ne12 => ⟨_, rfl, br_f (by decide +kernel) ⟨P12.1.1.1, t, by rw [F12.gr (by simp), F7.gr (by simp)]; exact r3, F12.o (F7.o w0), fun h18 e18 => ?_⟩⟩) (fun e h12 ft F12 L12 => ⟨_, rfl, br_t rfl (H h12 (.inl e) 0 ((fc_mo F7 (by simp) (by decide)).tr (fc_mo F12 (by simp) (by decide))) (by rw [F12.gi (by simp), F7.gi (by simp)]) L12 (fun e' z => by cases z; rw [eL, ft]) (fun j z => by cases z))⟩)
  have W12 := cTw_kl W7 F12 ht (by decide) ne12 (Or.inl ⟨rfl, rfl⟩)
  rw [W12.1.2.1.2.2.2.1, nI_1] at e18
  have F18 : fr [] [(t, 6)] h12 h18 := by rw [e18]; exact fr_pF (by simp) W12.1.1 rfl rfl
  have F18' : fr (XCr t) (YCr t) h12 h18 := F18.mo (by simp) (by simp [YCr])
  refine H h18 (.inr (i + 2)) 1 ((fc_mo F7 (by simp) (by decide)).tr ((fc_mo F12 (by simp [XCr]) (by decide)).tr F18')) (by rw [F18.gi (by simp <;> omega), F12.gi (by simp), F7.gi (by simp)]) (P12.fr F18 (by simp) (by simp <;> omega) (by simp <;> omega) (by simp <;> omega) (by simp <;> omega)) (fun e z => by cases z) (fun j z => ?_)
  cases z
  refine ⟨rN r x, by rw [eL, ft], ?_, rfl⟩
  rw [e18]
  exact cTw_up W12 ht (Or.inl ⟨rfl, x, a12, rfl, rfl⟩)
/-- a street's line -/
theorem s4_tellStreet (O : rlO r) (W : cTw h t R r) (ht : t = 70 ∨ t = 77) (r3 : gR h 1 3 = some t) (P : cEx h n bs tc i) (k1 : (tk n bs i).1 = 1) (H : ∀ h' s' x, fr (XCr t) (YCr t) h h' → gI h' 1 8 = gI h 1 8 → cEi h' n bs tc s' → (∀ e, s' = .inl e → lnB n bs r i = .inl e) → (∀ i', s' = .inr i' → ∃ r', lnB n bs r i = .inr (r', i') ∧ cTw h' t R r' ∧ r'.2 = r.2) → Q (some (.int x)) h') : zC mX4_tellStreet [.ref 1] h Q := by
  have n4 := O.1.2.1.1
  obtain ⟨w0, -, ⟨w1, w2, w3, w4, w5⟩, -⟩ := W.1
  refine nX4_tellStreet _ _ _ (bX4_tellStreet_0 _ _ _ ⟨P.1.1.1, _, r3, w0, ?_⟩)
  rw [w4, nI_lit 4, nI_ltI (by omega) (by decide)]
  refine ⟨fun q => ⟨_, P.1.1.2.1, P.1.1.2.2.2.2.1.1, u4_adv P (by omega) (by omega) (fun h7 F7 P7 => ⟨rfl, P7.1.1.1, t, by rw [F7.gr (by simp)]; exact r3, F7.o w0, t + 2, by rw [F7.gr (by simp <;> omega)]; exact w1, ?_⟩)⟩, fun q => u4_fail (k := 2) P (by decide) (fun h' F L => ⟨_, rfl, Or.inl rfl, H h' (.inl _) _ (fc_mo F (by simp) (by decide)) (F.gi (by simp)) L (fun e z => by cases z; unfold lnB; rw [if_neg (by omega), if_pos k1, if_pos (by omega)]; rfl) (fun j z => by cases z)⟩)⟩
  have W7 := W.fr F7 ht (by decide) (by decide)
  have eL : lnB n bs r i = match tkF (tk n bs (i + 1)) r.1.1.2.1.2 r.1.1.2.1.1 with
    | .inl e => .inl e
    | .inr x => .inr (rS r x, i + 2) := by
    unfold lnB
    rw [if_neg (by omega), if_pos k1, if_neg (by omega)]
    rfl
  rw [F7.gi (by simp <;> omega), w4]
  refine u4_takeNew P7 (by omega) (F7.lk w2) (by rw [F7.n]; exact w3) (by decide) q W7.1.2.2.1.2.2.2.2 (fun j hj => O.1.2.1.2.1 j hj) (fun x h12 ft F12 P12 a12 ne12 => ⟨_, rfl, br_f (by decide +kernel) ⟨P12.1.1.1, t, by rw [F12.gr (by simp), F7.gr (by simp)]; exact r3, F12.o (F7.o w0), fun h18 e18 => ?_⟩⟩) (fun e h12 ft F12 L12 => ⟨_, rfl, br_t rfl (H h12 (.inl e) 0 ((fc_mo F7 (by simp) (by decide)).tr (fc_mo F12 (by simp) (by decide))) (by rw [F12.gi (by simp), F7.gi (by simp)]) L12 (fun e' z => by cases z; rw [eL, ft]) (fun j z => by cases z))⟩)
  have W12 := cTw_kl W7 F12 ht (by decide) ne12 (Or.inr (Or.inl ⟨rfl, rfl⟩))
  rw [W12.1.2.2.1.2.2.2.1, nI_1] at e18
  have F18 : fr [] [(t, 7)] h12 h18 := by rw [e18]; exact fr_pF (by simp) W12.1.1 rfl rfl
  have F18' : fr (XCr t) (YCr t) h12 h18 := F18.mo (by simp) (by simp [YCr])
  refine H h18 (.inr (i + 2)) 1 ((fc_mo F7 (by simp) (by decide)).tr ((fc_mo F12 (by simp [XCr]) (by decide)).tr F18')) (by rw [F18.gi (by simp <;> omega), F12.gi (by simp), F7.gi (by simp)]) (P12.fr F18 (by simp) (by simp <;> omega) (by simp <;> omega) (by simp <;> omega) (by simp <;> omega)) (fun e z => by cases z) (fun j z => ?_)
  cases z
  refine ⟨rS r x, by rw [eL, ft], ?_, rfl⟩
  rw [e18]
  exact cTw_up W12 ht (Or.inr ⟨rfl, x, a12, rfl, rfl⟩)
/-- a voter's line -/
theorem s4_tellVoter (O : rlO r) (W : cTw h t R r) (ht : t = 70 ∨ t = 77) (r3 : gR h 1 3 = some t) (P : cEx h n bs tc i) (k2 : (tk n bs i).1 = 2) (H : ∀ h' s' x, fr (XCr t) (YCr t) h h' → gI h' 1 8 = gI h 1 8 → cEi h' n bs tc s' → (∀ e, s' = .inl e → lnB n bs r i = .inl e) → (∀ i', s' = .inr i' → ∃ r', lnB n bs r i = .inr (r', i') ∧ cTw h' t R r' ∧ r'.2 = r.2) → Q (some (.int x)) h') : zC mX4_tellVoter [.ref 1] h Q := by
  have n8 := O.1.2.2.1
  have n4 := O.1.2.1.1
  obtain ⟨w0, -, ⟨v1, v2, v3, v4, v5⟩, w1, w2, w3, w4, w5⟩ := W.1
  refine nX4_tellVoter _ _ _ (bX4_tellVoter_0 _ _ _ ⟨P.1.1.1, _, r3, w0, ?_⟩)
  rw [w4, nI_lit 8, nI_ltI (by omega) (by decide)]
  refine ⟨fun q => ⟨_, P.1.1.2.1, P.1.1.2.2.2.2.1.1, u4_adv P (by omega) (by omega) (fun h7 F7 P7 => ⟨rfl, P7.1.1.1, t, by rw [F7.gr (by simp)]; exact r3, F7.o w0, t + 3, by rw [F7.gr (by simp <;> omega)]; exact w1, ?_⟩)⟩, fun q => u4_fail (k := 2) P (by decide) (fun h' F L => ⟨_, rfl, Or.inl rfl, H h' (.inl _) _ (fc_mo F (by simp) (by decide)) (F.gi (by simp)) L (fun e z => by cases z; unfold lnB; rw [if_neg (by omega), if_neg (by omega), if_pos k2, if_pos (by omega)]; rfl) (fun j z => by cases z)⟩)⟩
  have W7 := W.fr F7 ht (by decide) (by decide)
  have eL : lnB n bs r i = match tkF (tk n bs (i + 1)) r.1.1.2.2.2 r.1.1.2.2.1 with
    | .inl e => .inl e
    | .inr x => match tkW n bs 3 (i + 2) with
      | .inl e => .inl e
      | .inr _ => match tkN (tk n bs (i + 3)) r.1.1.2.1.2 r.1.1.2.1.1 (fun _ => false) with
        | .inl e => .inl e
        | .inr s => match tkW n bs 4 (i + 4) with
          | .inl e => .inl e
          | .inr _ => match tkG n bs (i + 5) with
            | .inl e => .inl e
            | .inr g => .inr (rV r x s g, i + 6) := by
    unfold lnB
    rw [if_neg (by omega), if_neg (by omega), if_pos k2, if_neg (by omega)]
    rfl
  rw [F7.gi (by simp <;> omega), w4]
  -- a fault's end
  have bad : ∀ (h1 : zH) (e : zFt), cLo h1 n bs tc e → fr (XCr t) (YCr t) h h1 → gI h1 1 8 = gI h 1 8 → lnB n bs r i = .inl e → Q (some (.int 0)) h1 := fun h1 e L F g el => H h1 (.inl e) 0 F g L (fun e' z => by cases z; exact el) (fun j z => by cases z)
  have G7 : fr (XCr t) (YCr t) h h7 := fc_mo F7 (by simp) (by decide)
  have g7 : gI h7 1 8 = gI h 1 8 := F7.gi (by simp)
  refine u4_takeNew P7 (by omega) (F7.lk w2) (by rw [F7.n]; exact w3) (by decide) q W7.1.2.2.2.2.2.2.2 (fun j hj => O.1.2.2.2.1 j hj) (fun x h12 ft F12 P12 a12 ne12 => ⟨_, rfl, br_f (by decide +kernel) ⟨P12.1.1.1, ?_⟩⟩) (fun e h12 ft F12 L12 => ⟨_, rfl, br_t rfl (bad h12 e L12 (G7.tr (fc_mo F12 (by simp) (by decide))) (by rw [F12.gi (by simp)]; exact g7) (by rw [eL, ft]))⟩)
  have W12 := cTw_kl W7 F12 ht (by decide) ne12 (Or.inr (Or.inr ⟨rfl, rfl⟩))
  have G12 : fr (XCr t) (YCr t) h h12 := G7.tr (fc_mo F12 (by simp [XCr]) (by decide))
  have g12 : gI h12 1 8 = gI h 1 8 := by rw [F12.gi (by simp)]; exact g7
  rw [ft] at eL
  simp only [] at eL
  refine u4_take (κ := 3) P12 (by decide) (fun y3 h16 F16 P16 => ⟨_, rfl, br_f (by decide +kernel) ⟨P16.1.1.1, t, by rw [F16.gr (by simp), F12.gr (by simp), F7.gr (by simp)]; exact r3, F16.o W12.1.1, t + 2, by rw [F16.gr (by simp <;> omega)]; exact W12.1.2.2.1.1, ?_⟩⟩) (fun y3 h16 F16 L16 => ⟨_, rfl, br_t rfl (bad h16 _ L16 (G12.tr (fc_mo F16 (by simp) (by decide))) (by rw [F16.gi (by simp)]; exact g12) (by rw [eL]; unfold tkW; rw [if_neg y3]))⟩)
  have W16 := W12.fr F16 ht (by decide) (by decide)
  have G16 : fr (XCr t) (YCr t) h h16 := G12.tr (fc_mo F16 (by simp) (by decide))
  have g16 : gI h16 1 8 = gI h 1 8 := by rw [F16.gi (by simp)]; exact g12
  have a16 : aL h16 (t + 3) r.1.1.2.2.1 = lN x := by rw [F16.l (by simp)]; exact a12
  have z3 : tkW n bs 3 (i + 2) = .inr (i + 3) := by unfold tkW; rw [if_pos y3]
  rw [z3] at eL
  simp only [] at eL
  rw [W16.1.2.2.1.2.2.2.1]
  refine s4_takeKnown (bar := fun _ => false) P16.1 P16.2 W16.1.2.2.1.2.1 W16.1.2.2.1.2.2.1 (by decide) n4 W16.1.2.2.1.2.2.2.2 O.1.2.1.2 (fun v hv => no_bar v (by omega)) (fun h23 s1 es hs F23 P23 gd23 => ⟨_, rfl, br_f (nI_pos (by omega)) ⟨P23.1.1, ?_⟩⟩) (fun h23 e es F23 P23 E23 => ⟨_, rfl, br_t (by decide +kernel) (bad h23 e ⟨⟨_, P23⟩, E23⟩ (G16.tr (fc_mo F23 (by simp) (by decide))) (by rw [F23.gi (by simp)]; exact g16) (by rw [eL, es]))⟩)
  rw [es] at eL
  simp only [] at eL
  have W23 := W16.fr F23 ht (by decide) (by decide)
  have G23 : fr (XCr t) (YCr t) h h23 := G16.tr (fc_mo F23 (by simp) (by decide))
  have g23 : gI h23 1 8 = gI h 1 8 := by rw [F23.gi (by simp)]; exact g16
  have a23 : aL h23 (t + 3) r.1.1.2.2.1 = lN x := by rw [F23.l (by simp)]; exact a16
  refine u4_take (κ := 4) ⟨P23, gd23⟩ (by decide) (fun y4 h27 F27 P27 => ⟨_, rfl, br_f (by decide +kernel) ⟨P27.1.1.1, 2, P27.1.1.2.1, P27.1.1.2.2.2.2.1.1, ?_⟩⟩) (fun y4 h27 F27 L27 => ⟨_, rfl, br_t rfl (bad h27 _ L27 (G23.tr (fc_mo F27 (by simp) (by decide))) (by rw [F27.gi (by simp)]; exact g23) (by rw [eL]; unfold tkW; rw [if_neg y4]))⟩)
  have W27 := W23.fr F27 ht (by decide) (by decide)
  have G27 : fr (XCr t) (YCr t) h h27 := G23.tr (fc_mo F27 (by simp) (by decide))
  have g27 : gI h27 1 8 = gI h 1 8 := by rw [F27.gi (by simp)]; exact g23
  have a27 : aL h27 (t + 3) r.1.1.2.2.1 = lN x := by rw [F27.l (by simp)]; exact a23
  have z4 : tkW n bs 4 (i + 4) = .inr (i + 5) := by unfold tkW; rw [if_pos y4]
  rw [z4] at eL
  simp only [] at eL
  have P27 : cEx h27 n bs tc (i + 5) := P27
  have b31 := (tk_k (n := n) (bs := bs) (i + 5)).1
  have r27 : gR h27 1 3 = some t := by rw [F27.gr (by simp), F23.gr (by simp), F16.gr (by simp), F12.gr (by simp), F7.gr (by simp)]; exact r3
  have f128 : ∀ w : Int32, ((tk n bs (i + 5)).1 = 21 → ∃ g, tkG n bs (i + 5) = .inr g ∧ w = nI g) → zX mX4_tellVoter 128 [.ref 1, .int (nI s1), .int w] [] h27 Q := fun w hw => by
    refine bX4_tellVoter_128 _ _ _ _ _ ⟨P27.1.1.1, u4_take (κ := 21) P27 (by decide) (fun y5 h2 F2 P2 => ⟨_, rfl, br_f (by decide +kernel) ⟨P2.1.1.1, t, by rw [F2.gr (by simp)]; exact r27, F2.o W27.1.1, ?_⟩⟩) (fun y5 h2 F2 L2 => ⟨_, rfl, br_t rfl (bad h2 _ L2 (G27.tr (fc_mo F2 (by simp) (by decide))) (by rw [F2.gi (by simp)]; exact g27) (by rw [eL]; unfold tkG; rw [if_neg y5]))⟩)⟩
    obtain ⟨g, eg, ew⟩ := hw y5
    rw [eg] at eL
    simp only [] at eL
    have W2 := W27.fr F2 ht (by decide) (by decide)
    refine s10_addVoter (V := r.1.1.2.2.1) ⟨W2.1.1, W2.2.1.1, W2.2.1.2.1⟩ W2.1.2.2.2.2.2.2.1 q (fun h8 F8 g8 x8 y8 ne8 => ⟨rfl, ?_⟩)
    have nY : ∀ f, f ≠ 8 → (t, f) ∉ [(t, 8)] := fun f hf z => hf (by simpa using z)
    have nX : ∀ k, k ≠ t + 4 → k ≠ t + 5 → k ∉ [t + 4, t + 5] := fun k h1 h2 z => by simp at z; omega
    have F8' : fr (XCr t) (YCr t) h2 h8 := F8.mo (by simp [XCr]) (by simp [YCr])
    refine H h8 (.inr (i + 6)) 1 (G27.tr ((fc_mo F2 (by simp) (by decide)).tr F8')) (by rw [F8.gi (by simp <;> omega), F2.gi (by simp)]; exact g27) (P2.fr F8 (by simp <;> omega) (by simp <;> omega) (by simp <;> omega) (by simp <;> omega) (by simp <;> omega)) (fun e z => by cases z) (fun j z => ?_)
    cases z
    refine ⟨_, eL, ?_, rfl⟩
    obtain ⟨⟨k0, ⟨k1, k2', k3, k4, k5⟩, ⟨l1, l2, l3, l4, l5⟩, m1, m2, m3, m4, m5⟩, ⟨⟨a1, a2, a3⟩, ⟨b1, b2, b3⟩, ⟨c1, c2, c3⟩⟩, q3, ⟨tb, d1, d2, d3⟩, q5⟩ := W2
    refine ⟨⟨F8.o k0, ⟨by rw [F8.gr (nY 0 (by decide))]; exact k1, F8.lk k2', by rw [F8.n]; exact k3, by rw [F8.gi (nY 6 (by decide))]; exact k4, fun j hj => by rw [F8.l (nX _ (by omega) (by omega))]; exact k5 j hj⟩, ⟨by rw [F8.gr (nY 1 (by decide))]; exact l1, F8.lk l2, by rw [F8.n]; exact l3, by rw [F8.gi (nY 7 (by decide))]; exact l4, fun j hj => by rw [F8.l (nX _ (by omega) (by omega))]; exact l5 j hj⟩, by rw [F8.gr (nY 2 (by decide))]; exact m1, F8.lk m2, by rw [F8.n]; exact m3, g8, fun j hj => ?_⟩, ⟨⟨by rw [F8.gr (nY 3 (by decide))]; exact a1, F8.ik a2, by rw [F8.n]; exact a3⟩, ⟨by rw [F8.gr (nY 4 (by decide))]; exact b1, F8.ik b2, by rw [F8.n]; exact b3⟩, ⟨by rw [F8.gr (nY 5 (by decide))]; exact c1, F8.rk c2, by rw [F8.n]; exact c3⟩⟩, fun v hv => ?_, ⟨tb, by rw [F8.gi (nY 9 (by decide))]; exact d1, d2, d3⟩, fun v hv => ⟨fun z => by rw [F8.r (nX _ (by omega) (by omega))]; exact (q5 v hv).1 z, fun z => ?_⟩⟩
    · rw [F8.l (nX _ (by omega) (by omega)), F2.l (by simp)]
      show _ = lN (va_up r.1.1.2.2.2 r.1.1.2.2.1 x j)
      have hj' : j < r.1.1.2.2.1 + 1 := hj
      by_cases z : j = r.1.1.2.2.1
      · rw [z, up_s]; exact a27
      · rw [up_n z, ← F2.l (k := t + 3) (by simp)]; exact m5 j (by omega)
    · show aI h8 (t + 4) v = nI (va_up r.1.2.1 r.1.1.2.2.1 s1 v) ∧ aI h8 (t + 5) v = nI (va_up r.1.2.2 r.1.1.2.2.1 g v)
      have hv' : v < r.1.1.2.2.1 + 1 := hv
      by_cases z : v = r.1.1.2.2.1
      · rw [z, up_s, up_s]; exact ⟨x8, by rw [y8, ew]⟩
      · rw [up_n z, up_n z, (ne8 v z).1, (ne8 v z).2]; exact q3 v (by omega)
    · obtain ⟨bl, e1, e2, e3⟩ := (q5 v hv).2 z
      exact ⟨bl, by rw [F8.r (nX _ (by omega) (by omega))]; exact e1, e2, e3.fr F8 (fun k hk => Or.inl (by simp at hk; omega)) (fun q hq => by simp at hq; rw [hq]; exact ⟨by show t < 126; omega, by show t ≠ 34; omega⟩)⟩
  rw [P27.1.2.2.2.2.1, nI_lit 21, nI_eq (by omega) (by decide)]
  refine ⟨fun y5 => ?_, fun y5 => f128 _ (fun z => absurd z y5)⟩
  have v9 := (tk_o (n := n) (bs := bs) (i + 5)).2.2.2.1 y5
  rw [P27.1.2.2.2.2.2.2 (by omega), lN_i, nI_lit 1, nI_lit 9, nI_ltI (by omega) (by decide), nI_leI (by omega) (by decide)]
  have f4 : ((tk n bs (i + 5)).2.2.1 < 1 ∨ 9 < (tk n bs (i + 5)).2.2.1) → zC mX4_fail [.ref 1, .int (nI 4)] h27 (fun r0 h35 => ∃ x36 : Int32, r0 = some (.int x36) ∧ ((x36 = 0 ∨ x36 = 1) ∧ (Q (some (.int x36)) h35))) := fun z => u4_fail (k := 4) P27 (by decide) (fun h2 F2 L2 => ⟨_, rfl, Or.inl rfl, by
    have e4 : mpk 4 (tk n bs (i + 5)) = (4, (tk n bs (i + 5)).2.1) := by unfold mpk; rw [if_neg (by omega)]
    rw [e4] at L2
    exact bad h2 _ L2 (G27.tr (fc_mo F2 (by simp) (by decide))) (by rw [F2.gi (by simp)]; exact g27) (by rw [eL]; unfold tkG; rw [if_pos y5, if_pos z])⟩)
  exact ⟨fun z => f4 (Or.inl z), fun z => ⟨fun z9 => f128 _ (fun _ => ⟨_, by unfold tkG; rw [if_pos y5, if_neg (by omega)], rfl⟩), fun z9 => f4 (Or.inr (by omega))⟩⟩
end

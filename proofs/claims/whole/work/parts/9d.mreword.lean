/-! ===== the reference: reword ===== -/
section
variable {h h' h0 : zH} {Q : Option Value → zH → Prop} {n i rb b N ns V : Nat} {bs : Nat → Nat} {e : Nat × Nat} {st wt cn cu : Nat → Nat} {cd : Nat → Nat → zOp} {K : zKs}
/-- the keys, wherever the reader is -/
def mKz (h : zH) (rb : Nat) (K : zKs) : Prop := rb < 2 ∧ (aI h 87 rb = nI K.1.1 ∧ ∀ j, j < K.1.1 → aL h 91 (3 * rb + j) = lN (cv (K.1.2 j))) ∧ (aI h 88 rb = nI K.2.1.1 ∧ ∀ j, j < K.2.1.1 → aL h 92 (4 * rb + j) = lN (cv (K.2.1.2 j))) ∧ (aI h 89 rb = nI K.2.2.1 ∧ ∀ j, j < K.2.2.1 → aL h 93 (8 * rb + j) = lN (cv (K.2.2.2 j)))
theorem mKz.y (A : mKz h rb K) (g : gI h 84 27 = nI rb) : mKy h rb K := ⟨g, A⟩
theorem mKz.fr {X : List Nat} {Y : List (Nat × Nat)} (A : mKz h rb K) (F : fr X Y h h') (hX : [87, 88, 89, 91, 92, 93].all (fun k => !(X.contains k)) = true) : mKz h' rb K := by
  simp only [List.all_cons, List.all_nil, and_true, Bool.and_eq_true] at hX
  obtain ⟨x1, x2, x3, x4, x5, x6⟩ := hX
  obtain ⟨a1, a2, a3, a4⟩ := A
  exact ⟨a1, ⟨by rw [F.i (ni_of x1)]; exact a2.1, fun j hj => by rw [F.l (ni_of x4)]; exact a2.2 j hj⟩, ⟨by rw [F.i (ni_of x2)]; exact a3.1, fun j hj => by rw [F.l (ni_of x5)]; exact a3.2 j hj⟩, ⟨by rw [F.i (ni_of x3)]; exact a4.1, fun j hj => by rw [F.l (ni_of x6)]; exact a4.2 j hj⟩⟩
/-- units of the others -/
def otU (cu : Nat → Nat) (v : Nat) : Nat := sm (fun w => if w = v then 0 else cu w) 0 8
theorem otU_up {v x : Nat} (hv : v < 8) : otU cu v + x = sm (va_up cu v x) 0 8 := by
  have a := sm_up (f := cu) (v := v) (x := 0) 8 0
  have c := sm_up (f := cu) (v := v) (x := x) 8 0
  rw [if_pos (show 0 ≤ v ∧ v < 0 + 8 by omega), if_pos (show 0 ≤ v ∧ v < 0 + 8 by omega)] at a c
  have e : otU cu v = sm (va_up cu v 0) 0 8 := sm_congr 8 0 (fun w _ _ => by unfold va_up; rfl)
  omega
theorem otU_le {v : Nat} (hv : v < 8) : otU cu v + cu v = sm cu 0 8 := by
  rw [otU_up hv]
  exact sm_congr 8 0 (fun w _ _ => by unfold va_up; split <;> rename_i z <;> first | rw [z] | rfl)
def rwO (n : Nat) (bs : Nat → Nat) (K : zKs) (v lim : Nat) : zFt ⊕ zPs := match prs n bs K v lim 1602 (0, [], [], (0, c00), (0, 0)) with
  | .inl e => .inl e
  | .inr s => if (tk n bs s.2.2.2.2.1).1 = 30 then .inr s else .inl (mp n bs s.2.2.2.2.1)
abbrev XRw : List Nat := [86, 97, 98, 99, 100, 101, 102, 103, 104, 105, 106, 107, 108, 109]
abbrev YRw : List (Nat × Nat) := [(84, 2), (84, 3), (84, 4), (84, 5), (84, 6), (84, 7), (84, 8), (84, 9), (84, 10), (84, 27), (84, 32), (84, 33), (84, 34), (84, 35), (84, 36), (84, 37), (84, 43)]
theorem s12_reword {x : Int32} (M : mT h b N ns V st wt) (T : mTp h n bs) (Kz : mKz h b K) (O : kyO K) (hV : K.2.2.1 = V) (hN : K.1.1 = N) (Bl : ∀ v, v < 8 → mBl h (8 * b + v) (cn v) (cd v) (cu v)) (Bo : ∀ v, v < V → okC V N v (cn v) (cd v)) (hu : sm cu 0 8 ≤ 80) (g40 : gI h 84 40 = -1) (Z : ∀ v, x = nI v → v < V → fuelS n bs K v (80 - otU cu v) 1602 (0, [], [], (0, c00), (0, 0)))
    (H0 : (x < 0 ∨ nI V ≤ x) → Q (some (.int (-2))) h)
    (H1 : ∀ v s h', x = nI v → v < V → rwO n bs K v (80 - otU cu v) = .inr s → fr XRw YRw h h' → (∀ p, p ≠ 40 → p ≠ 8 * b + v → slE h h' p) → mBl h' (8 * b + v) s.2.2.2.1.1 s.2.2.2.1.2 s.2.2.2.2.2 → okC V N v s.2.2.2.1.1 s.2.2.2.1.2 → s.2.2.2.2.2 ≤ 80 - otU cu v → mS h' N V (syF V N st wt (va_up cn v s.2.2.2.1.1) (va_up cd v s.2.2.2.1.2)) → gI h' 84 2 = 0 → gI h' 84 4 = 0 → gI h' 84 5 = -1 → Q (some (.int (nI (sm (va_up cu v s.2.2.2.2.2) 0 8)))) h')
    (H2 : ∀ v e h', x = nI v → v < V → rwO n bs K v (80 - otU cu v) = .inl e → fr XRw YRw h h' → (∀ p, p ≠ 40 → slE h h' p) → (∀ k, k = 106 ∨ k = 107 ∨ k = 108 ∨ k = 109 → aI h' k = aI h k) → gI h' 84 43 = gI h 84 43 → gI h' 84 2 = 0 → mFl h' e → Q (some (.int (-1))) h') : zC mX12_reword [.ref 84, .int x] h Q := by
  have V8 := M.V8
  have b2 := M.b2
  have cb : (nI b).toNatClampNeg = b := nI_clamp (by omega)
  refine nX12_reword _ _ _ _ (bX12_reword_0 _ _ _ _ ⟨M.l.o, s12_isVoter M (fun q => ⟨_, rfl, br_t rfl (H0 q)⟩) (fun v hv xe => ⟨_, rfl, br_f (by decide +kernel) ⟨M.l.o, s12_takeTape M.l T (fun h2 F2 P2 g2 g25 g22 => ⟨rfl, P2.1.o, fun h4 e4 => ?_⟩)⟩⟩)⟩)
  subst xe
  have v8 : v < 8 := by omega
  rw [F2.gi (by simp), M.b26] at e4
  have F4 : fr [] [(84, 27)] h2 h4 := by rw [e4]; exact fr_pF (by simp) P2.1.o rfl rfl
  have F24 : fr [86] [(84, 2), (84, 3), (84, 4), (84, 5), (84, 6), (84, 7), (84, 8), (84, 9), (84, 10), (84, 27)] h h4 := (F2.mo (by simp) (by simp)).tr (F4.mo (by simp) (by simp))
  have P4 : mPs h4 n bs 0 := P2.fr F4 (by simp) (by decide) (by simp) (by decide)
  have g4 : mGd h4 := g2.fr F4 (by simp)
  have g26 : gI h4 84 26 = nI b := by rw [F24.gi (by simp)]; exact M.b26
  have g27 : gI h4 84 27 = nI b := by rw [e4, gI_pF_s P2.1.o (by decide)]
  rw [g26]
  refine s12_unitsBut (o := v) (cu := cu) P4.1 (by omega) (fun w hw => by rw [F24.i (by simp)]; exact (Bl w hw).2) (fun w hw => nI_eq (by omega) (by omega)) ⟨_, rfl, P4.1.o, fun h6 e6 => ?_⟩
  have ou : otU cu v ≤ 80 := by have := otU_le (cu := cu) v8; omega
  have eo : sm (fun w => if w = v then 0 else cu w) 0 8 = otU cu v := rfl
  rw [eo, nI_lit 80, nI_sub ou] at e6
  have F6 : fr [] [(84, 34)] h4 h6 := by rw [e6]; exact fr_pF (by simp) P4.1.o rfl rfl
  have P6 : mPs h6 n bs 0 := P4.fr F6 (by simp) (by decide) (by simp) (by decide)
  have g6 : mGd h6 := g4.fr F6 (by simp)
  have F26 : fr [86] [(84, 2), (84, 3), (84, 4), (84, 5), (84, 6), (84, 7), (84, 8), (84, 9), (84, 10), (84, 27), (84, 34)] h h6 := (F24.mo (by simp) (by simp)).tr (F6.mo (by simp) (by simp))
  have K6 : mKy h6 b K := (Kz.fr F26 (by decide)).y (by rw [F6.gi (by simp)]; exact g27)
  have z40 : (40 : Int32) = nI 40 := rfl
  -- the fault's end
  have bad : ∀ (h1 : zH) (e : zFt), mLo h1 n bs e → fr XRw YRw h h1 → (∀ p, p ≠ 40 → slE h h1 p) → (∀ k, k = 106 ∨ k = 107 ∨ k = 108 ∨ k = 109 → aI h1 k = aI h k) → gI h1 84 43 = gI h 84 43 → gI h1 84 2 = 0 → rwO n bs K v (80 - otU cu v) = .inl e → zX mX12_reword 66 [.ref 84, .int (nI v), .int 40] [] h1 Q := fun h1 e L1 F1 E1 r1 r2 t1 el =>
    bX12_reword_66 _ _ _ _ _ ⟨L1.l.o, s12_isGood L1.l (fun g => absurd g L1.ng) (fun _ => ⟨_, rfl, br_t rfl (H2 v e h1 rfl hv el F1 E1 r1 r2 t1 L1.2)⟩)⟩
  have sl6 : ∀ p, slE h h6 p := fun p => slE.of F26 (by decide)
  rw [z40]
  refine s12_readE O (by decide) (by omega) (by omega) P6 g6 K6 (by rw [e6, gI_pF_s P4.1.o (by decide)]) (d := 1602) (Z v rfl hv) (fun h7 s es p4 J' F7 S7 => ⟨rfl, ?_⟩) (fun h7 e es F7 L7 => ⟨rfl, L7.l.o, s12_isGood L7.l (fun g => absurd g L7.ng) (fun _ => ⟨_, rfl, br_t rfl (bad h7 e L7 ((F26.mo (by simp) (by simp)).tr (F7.1.mo (by simp) (by simp))) (fun p hp => (sl6 p).tr ⟨(F7.2.1 p hp).1, (F7.2.1 p hp).2, fun k hk => F7.2.2 _ (by omega)⟩) (fun k hk => ?_) ?_ ?_ (by unfold rwO; rw [es]))⟩)⟩)
  · obtain ⟨R7, -, -⟩ := S7
    obtain ⟨P7, g7, w1, w2, w3, w4, w5, w6, w7⟩ := R7
    have ok := Ivs_ok J' p4
    rw [hV, hN] at ok
    have us : s.2.2.2.2.2 ≤ 80 - otU cu v := J'.2.2.1
    have B40 : mBl h7 40 s.2.2.2.1.1 s.2.2.2.1.2 s.2.2.2.2.2 := ⟨⟨w6, ok.1, w7⟩, w4⟩
    have FA : fr XRw YRw h h7 := (F26.mo (by simp) (by simp)).tr (F7.1.mo (by simp) (by simp))
    have sl7 : ∀ p, p ≠ 40 → slE h h7 p := fun p hp => (sl6 p).tr ⟨(F7.2.1 p hp).1, (F7.2.1 p hp).2, fun k hk => F7.2.2 _ (by omega)⟩
    have rows7 : ∀ k, k = 106 ∨ k = 107 ∨ k = 108 ∨ k = 109 → aI h7 k = aI h k := fun k hk => by
      rcases hk with rfl | rfl | rfl | rfl <;> rw [F7.1.i (by simp), F26.i (by simp)]
    have r43 : gI h7 84 43 = gI h 84 43 := by rw [F7.1.gi (by simp), F26.gi (by simp)]
    have t7 : gI h7 84 2 = 0 := by rw [F7.1.gi (by simp), F6.gi (by simp), F4.gi (by simp)]; exact g22
    have b31 := (tk_k (n := n) (bs := bs) s.2.2.2.2.1).1
    have kk := mkk_lt (k := (tk n bs s.2.2.2.2.1).1) (by omega)
    have e0 : gI h7 84 8 = 0 ↔ (tk n bs s.2.2.2.2.1).1 = 30 := by
      have := P7.2.2.tk b31 0 (by decide)
      rw [kk.2.2.2.2.2.1] at this
      exact this
    refine ⟨P7.1.o, s12_isGood P7.1 (fun _ => ⟨_, rfl, br_f (by decide +kernel) ⟨P7.1.o, fun q => ?_, fun q => s12_misplaced P7 g7 (fun h8 F8 E8 => ⟨rfl, bad h8 _ (lo_of P7 F8 E8) (FA.tr (F8.mo (by simp) (by simp))) (fun p hp => (sl7 p hp).tr (slE.of F8 (by decide))) (fun k hk => by rw [F8.i (by simp)]; exact rows7 k hk) (by rw [F8.gi (by simp)]; exact r43) (by rw [F8.gi (by simp)]; exact t7) ?_⟩)⟩⟩) (fun g => absurd g7 g)⟩
    · have z30 := e0.mp q
      have er : rwO n bs K v (80 - otU cu v) = .inr s := by unfold rwO; rw [es]; simp only []; rw [if_pos z30]
      have g267 : gI h7 84 26 = nI b := by rw [FA.gi (by simp)]; exact M.b26
      refine bX12_reword_66 _ _ _ _ _ ⟨P7.1.o, s12_isGood P7.1 (fun _ => ⟨_, rfl, br_f (by decide +kernel) ⟨P7.1.o, ?_⟩⟩) (fun g => absurd g7 g)⟩
      rw [g267, ix8]
      refine s12_copyBallot P7.1 B40 (by decide) (by omega) (by omega) (fun h8 F8 B8 sl8 => ⟨rfl, F8.o P7.1.o, ?_⟩)
      have FB : fr XRw YRw h h8 := FA.tr (F8.mo (by decide) (by simp))
      have sl : ∀ p, p ≠ 40 → p ≠ 8 * b + v → slE h h8 p := fun p h1 h2 => (sl7 p h1).tr (sl8 p h2)
      have M8 : mT h8 b N ns V st wt := M.fr FB (by decide)
      have B8' : mB h8 b V N (va_up cn v s.2.2.2.1.1) (va_up cd v s.2.2.2.1.2) := fun w hw => by
        by_cases y : w = v
        · rw [y, up_s, up_s]; exact ⟨B8.1, ok⟩
        · rw [up_n y, up_n y]; exact ⟨((Bl w (by omega)).sl (sl _ (by omega) (by omega))).1, Bo w hw⟩
      refine s12_layRows M8 (by rw [FB.gi (by simp)]; exact g40) B8' (fun h9 F9 S9 => ⟨rfl, F9.o M8.l.o, ?_⟩)
      have FC : fr XRw YRw h h9 := FB.tr (F9.mo (by decide) (by decide))
      have sl9 : ∀ p, p ≠ 40 → p ≠ 8 * b + v → slE h h9 p := fun p h1 h2 => (sl p h1 h2).tr (slE.of F9 (by decide))
      have B9 : mBl h9 (8 * b + v) s.2.2.2.1.1 s.2.2.2.1.2 s.2.2.2.2.2 := B8.fr F9 (by decide)
      have M9 : mLay h9 := M8.l.fr F9 (by decide)
      rw [F9.gi (by decide), FB.gi (by simp), M.b26]
      refine s12_unitsBut (o := 99) (cu := va_up cu v s.2.2.2.2.2) M9 (by omega) (fun w hw => ?_) (fun w hw => ⟨fun z => absurd z (by have := nI_pos (n := w) (by omega); intro y; rw [y] at this; exact this (by decide +kernel)), fun z => by omega⟩) ⟨_, rfl, ?_⟩
      · by_cases y : w = v
        · rw [y, up_s]; exact B9.2
        · rw [up_n y]; exact ((Bl w hw).sl (sl9 _ (by omega) (by omega))).2
      · have eu : sm (fun w => if w = 99 then 0 else va_up cu v s.2.2.2.2.2 w) 0 8 = sm (va_up cu v s.2.2.2.2.2) 0 8 := sm_congr 8 0 (fun x _ hx => by rw [if_neg (by omega)])
        rw [eu]
        refine H1 v s h9 rfl hv er FC sl9 B9 ok us S9 ?_ ?_ ?_
        · rw [F9.gi (by decide), F8.gi (by simp)]; exact t7
        · rw [F9.gi (by decide), F8.gi (by simp)]; exact g7.1
        · rw [F9.gi (by decide), F8.gi (by simp)]; exact g7.2
    · unfold rwO; rw [es]; simp only []; rw [if_neg (fun z => q (e0.mpr z))]; rfl
  · rcases hk with rfl | rfl | rfl | rfl <;> rw [F7.1.i (by simp), F26.i (by simp)]
  · rw [F7.1.gi (by simp), F26.gi (by simp)]
  · rw [F7.1.gi (by simp), F6.gi (by simp), F4.gi (by simp)]; exact g22
end

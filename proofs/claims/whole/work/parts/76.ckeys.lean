/-! ===== names that were told: the class ===== -/
section
variable {h h' : zH} {Q : Option Value → zH → Prop} {n c i t : Nat} {bs : Nat → Nat} {K : zKs}
def cPs (h : zH) (n : Nat) (bs : Nat → Nat) (c i : Nat) : Prop := cRr h ∧ cCu h n bs c i
def cGd (h : zH) : Prop := gI h 1 12 = 0 ∧ gI h 1 13 = -1
theorem cFl.ng {e : Nat × Nat} (E : cFl h e) : ¬ cGd h := fun g => E.ne g.1
theorem cGd.fr {X : List Nat} {Y : List (Nat × Nat)} (E : cGd h) (F : fr X Y h h') (h1 : (1, 12) ∉ Y) (h2 : (1, 13) ∉ Y := by simp) : cGd h' := ⟨by rw [F.gi h1]; exact E.1, by rw [F.gi h2]; exact E.2⟩
theorem cPs.fr {X : List Nat} {Y : List (Nat × Nat)} (P : cPs h n bs c i) (F : fr X Y h h') (hX : [4, 5, 6, 7].all (fun k => !(X.contains k)) = true) (hY : [0, 1, 2, 3, 4, 6, 7, 8, 9, 10].all (fun f => !(Y.contains (2, f))) = true) (hY1 : [0, 1, 2].all (fun f => !(Y.contains (1, f))) = true) : cPs h' n bs c i := by
  simp only [List.all_cons, List.all_nil, and_true, Bool.and_eq_true] at hX hY hY1
  obtain ⟨x4, x5, x6, x7⟩ := hX
  obtain ⟨y0, y1, y2, y3, y4, y6, y7, y8, y9, y10⟩ := hY
  obtain ⟨z0, z1, z2⟩ := hY1
  exact ⟨P.1.fr F (ni_of x4) (by simp only [List.all_cons, List.all_nil, and_true, Bool.and_eq_true]; exact ⟨y0, y1, y2, y3, y4⟩) (ni_of z0) (ni_of z1) (ni_of z2), P.2.fr F (ni_of x5) (ni_of x6) (ni_of x7) (by simp only [List.all_cons, List.all_nil, and_true, Bool.and_eq_true]; exact ⟨y6, y7, y8, y9, y10⟩)⟩
theorem nxi_s (C : cCu h n bs c i) (h1 : (tk n bs i).1 ≠ 30) (h2 : (tk n bs i).1 ≠ 31) : nxi c i = i + 1 := by
  unfold nxi
  by_cases w : i + 1 < c
  · rw [if_pos w]
  · exfalso
    have ic := C.2.1
    have f := C.1.2.2.2.1
    rw [show c - 1 = i by omega] at f
    rcases f with f | f
    · exact h1 f
    · exact h2 f
/-- a reader that lost its way: nothing but where it stands matters -/
abbrev YC : List (Nat × Nat) := [(1, 12), (1, 13), (2, 7), (2, 8), (2, 9), (2, 10)]
theorem s4_takeKnown {row m N : Nat} {k : Nat → Nat} {bar : Nat → Bool} {bI : Int32} (P : cPs h n bs c i) (hg : cGd h) (hl : lK h row) (hN : aN h row = N) (h31 : N < 2 ^ 31) (hm : m ≤ N) (A : ∀ j, j < m → aL h row j = lN (k j)) (R : kyR k m) (hb : ∀ v, v < m → (((bI >>> (nI v &&& 31)) &&& (1 : Int32)) = 1 ↔ bar v = true))
    (H1 : ∀ h' v, tkN (tk n bs i) k m bar = .inr v → v < m → fr [] YC h h' → cPs h' n bs c (i + 1) → cGd h' → Q (some (.int (nI v))) h') (H2 : ∀ h' e, tkN (tk n bs i) k m bar = .inl e → fr [] YC h h' → cPs h' n bs c i → cFl h' e → Q (some (.int (-1))) h') : zC mX4_takeKnown [.ref 1, .ref row, .int (nI m), .int bI] h Q := by
  have b31 := (tk_k (n := n) (bs := bs) i).1
  have L := P.1
  have C := P.2
  have o := (tk_o (n := n) (bs := bs) i).2.2.1
  have hg' : gI h 1 12 = 0 := hg.1
  have flt : ∀ (kk : Nat) (e : Nat × Nat), 0 < kk ∧ kk ≤ 5 → e = mpk kk (tk n bs i) → tkN (tk n bs i) k m bar = .inl e → zC mX4_fail [.ref 1, .int (nI kk)] h (fun r0 h3 => ∃ x4 : Int32, r0 = some (.int x4) ∧ (Q (some (.int (-1 : Int32))) h3)) := fun kk e hk he ht =>
    s4_fail L C hk (fun _ h' F E => ⟨_, rfl, H2 h' e ht (F.mo (by simp) (by simp)) (P.fr F (by decide) (by decide) (by decide)) (by rw [he]; exact E)⟩) (fun u => absurd hg' u)
  refine nX4_takeKnown _ _ _ _ _ _ (bX4_takeKnown_0 _ _ _ _ _ _ ⟨L.1, br_t hg' ⟨_, L.2.1, L.2.2.2.2.1.1, ?_⟩⟩)
  rw [C.2.2.2.1, nI_lit 20, nI_eq (by omega) (by decide)]
  refine ⟨fun q => ?_, fun q => flt 2 _ (by decide) rfl (by unfold tkN; rw [if_neg q])⟩
  obtain ⟨x, hx⟩ : ∃ x, x = (tk n bs i).2.2.1 := ⟨_, rfl⟩
  have x40 : x < 2 ^ 64 := Nat.lt_of_lt_of_le (by rw [hx]; exact o (by omega)) (by decide)
  have k40 : ∀ j, j < m → k j < 2 ^ 64 := fun j hj => Nat.lt_of_lt_of_le (R.1 j hj) (by decide)
  have et : tkN (tk n bs i) k m bar = (match fx k x m with
    | none => .inl (5, (tk n bs i).2.1)
    | some v => if bar v = true then .inl (3, (tk n bs i).2.1) else .inr v) := by unfold tkN; rw [if_pos q, ← hx]; cases fx k x m <;> rfl
  have at71 : ∀ r : Option Nat, r = fx k x m → zX mX4_takeKnown 71 [.ref 1, .float 0, .float 0, .int bI, .int (oI r), .float 0] [] h Q := fun r hr => by
    rw [← hr] at et
    cases r with
    | none => exact bX4_takeKnown_71 _ _ _ _ _ (br_t rfl ⟨L.1, flt 5 _ (by decide) (by unfold mpk; rw [if_neg (by omega)]) et⟩)
    | some v =>
      have vm := (fx_some hr.symm).1
      dsimp only at et
      refine bX4_takeKnown_71 _ _ _ _ _ (br_f (fun z => absurd ((oI_ne (b := some v) (fun u w => by cases w; omega)).mp z) (by simp)) ?_)
      show ((((bI >>> (nI v &&& 31)) &&& (1 : Int32)) = (1 : Int32) → _) ∧ _)
      refine ⟨fun w => ⟨L.1, ?_⟩, fun w => ⟨L.1, _, L.2.1, L.2.2.2.2.1.1, s8_advance L.2.2.2.2 C (fun h' F' C' => ⟨rfl, ?_⟩)⟩⟩
      · rw [if_pos ((hb v vm).mp w)] at et
        exact flt 3 _ (by decide) (by unfold mpk; rw [if_neg (by omega)]) et
      · rw [if_neg (fun u => w ((hb v vm).mpr u))] at et
        rw [nxi_s C (by omega) (by omega)] at C'
        exact H1 h' v et vm (F'.mo (by simp) (by simp)) ⟨L.fr F' (by simp) (by decide) (by simp) (by simp) (by simp), C'⟩ (hg.fr F' (by simp))
  have go : ∀ (d j : Nat), j + d = m → zX mX4_takeKnown 33 [.ref 1, .ref row, .int (nI m), .int bI, .int (oI (fx k x j)), .int (nI j)] [] h Q := by
    intro d
    induction d with
    | zero =>
      intro j hj
      have : j = m := by omega
      subst this
      exact bX4_takeKnown_33 _ _ _ _ _ _ _ _ (br_t (nI_le (Nat.le_refl _) (by omega)) (at71 _ rfl))
    | succ d ih =>
      intro j hj
      have nx := ih (j + 1) (by omega)
      refine bX4_takeKnown_33 _ _ _ _ _ _ _ _ (br_f (nI_ge (by omega) (by omega)) ⟨hl, br_f (by rw [hN]; exact nI_ge (by omega) (by omega)) ⟨by rw [hN]; exact vp_in_nI (by omega) h31, L.1, _, L.2.1, L.2.2.2.2.1.1, ?_⟩⟩)
      rw [nI_clamp (by omega), A j (by omega), C.2.2.2.2.2 (by omega), ← hx, lg_cmp_eq, lN_eq6 (k40 j (by omega)) x40, nI_1]
      refine ⟨fun z => ?_, fun z => ?_⟩
      · have e0 : fx k x j = none := fx_no (fun l hl u => by
          have := R.2 l j (by omega) (by omega) (by rw [u, z])
          omega)
        rw [fx, e0] at nx
        dsimp only at nx
        rw [if_pos z] at nx
        exact nx
      · rw [fx] at nx
        cases e0 : fx k x j with
        | none =>
          rw [e0] at nx
          dsimp only at nx
          rw [if_neg z] at nx
          exact nx
        | some j' => rw [e0] at nx; exact nx
  have g0 := go m 0 (by omega)
  exact g0
/-- the town's keys -/
def cKy (h : zH) (t : Nat) (K : zKs) : Prop := oK h t 10 ∧ (gR h t 0 = some (t + 1) ∧ lK h (t + 1) ∧ aN h (t + 1) = 3 ∧ gI h t 6 = nI K.1.1 ∧ ∀ j, j < K.1.1 → aL h (t + 1) j = lN (K.1.2 j)) ∧ (gR h t 1 = some (t + 2) ∧ lK h (t + 2) ∧ aN h (t + 2) = 4 ∧ gI h t 7 = nI K.2.1.1 ∧ ∀ j, j < K.2.1.1 → aL h (t + 2) j = lN (K.2.1.2 j)) ∧ (gR h t 2 = some (t + 3) ∧ lK h (t + 3) ∧ aN h (t + 3) = 8 ∧ gI h t 8 = nI K.2.2.1 ∧ ∀ j, j < K.2.2.1 → aL h (t + 3) j = lN (K.2.2.2 j))
theorem cKy.fr {X : List Nat} {Y : List (Nat × Nat)} (A : cKy h t K) (F : fr X Y h h') (h1 : t + 1 ∉ X) (h2 : t + 2 ∉ X) (h3 : t + 3 ∉ X) (hY : ∀ f, f = 0 ∨ f = 1 ∨ f = 2 ∨ f = 6 ∨ f = 7 ∨ f = 8 → (t, f) ∉ Y) : cKy h' t K := by
  obtain ⟨a, ⟨b1, b2, b3, b4, b5⟩, ⟨c1, c2, c3, c4, c5⟩, d1, d2, d3, d4, d5⟩ := A
  exact ⟨F.o a, ⟨by rw [F.gr (hY 0 (by simp))]; exact b1, F.lk b2, by rw [F.n]; exact b3, by rw [F.gi (hY 6 (by simp))]; exact b4, fun j hj => by rw [F.l h1]; exact b5 j hj⟩, ⟨by rw [F.gr (hY 1 (by simp))]; exact c1, F.lk c2, by rw [F.n]; exact c3, by rw [F.gi (hY 7 (by simp))]; exact c4, fun j hj => by rw [F.l h2]; exact c5 j hj⟩, by rw [F.gr (hY 2 (by simp))]; exact d1, F.lk d2, by rw [F.n]; exact d3, by rw [F.gi (hY 8 (by simp))]; exact d4, fun j hj => by rw [F.l h3]; exact d5 j hj⟩
theorem no_bar : ∀ v : Nat, v < 2 ^ 31 → (((0 : Int32) >>> (nI v &&& 31)) &&& (1 : Int32) = 1 ↔ false = true) := fun v _ => by
  have e : (0 : Int32) >>> (nI v &&& 31) &&& 1 = 0 := by
    obtain ⟨j, hj, e⟩ := pk_andE (nI v) (m := 31) 5 (by decide +kernel)
    rw [e]
    have : ∀ j, j < 32 → (0 : Int32) >>> nI j &&& 1 = 0 := by decide +kernel
    exact this j hj
  rw [e]; decide
theorem own_bar {own v : Nat} (ho : own < 8) (hv : v < 8) : ((((1 : Int32) <<< (nI own &&& 31)) >>> (nI v &&& 31)) &&& (1 : Int32) = 1 ↔ (v == own) = true) := by
  have : ∀ own, own < 8 → ∀ v, v < 8 → ((((1 : Int32) <<< (nI own &&& 31)) >>> (nI v &&& 31)) &&& (1 : Int32) = 1 ↔ (v == own) = true) := by decide +kernel
  exact this own ho v hv
theorem s4_takeOther {own av : Nat} (P : cPs h n bs c i) (hg : cGd h) (A : cKy h t K) (O : kyO K) (r3 : gR h 1 3 = some t) (h7 : gI h 1 7 = nI own) (ho : own < 8) (ha : gI h 1 10 = nI av) (ht : t = 70 ∨ t = 77)
    (H1 : ∀ h' v, tkN (tk n bs i) K.2.2.2 K.2.2.1 (fun v => v == own) = .inr v → v < K.2.2.1 → fr [] ((1, 10) :: YC) h h' → cPs h' n bs c (i + 1) → cGd h' → gI h' 1 10 = nI (av ||| 2 ^ v) → Q (some (.int (nI v))) h') (H2 : ∀ h' e, tkN (tk n bs i) K.2.2.2 K.2.2.1 (fun v => v == own) = .inl e → fr [] ((1, 10) :: YC) h h' → cPs h' n bs c i → cFl h' e → Q (some (.int (-1))) h') : zC mX4_takeOther [.ref 1] h Q := by
  have L := P.1
  have O8 := O.2.2.1
  refine nX4_takeOther _ _ _ (bX4_takeOther_0 _ _ _ ⟨L.1, _, r3, A.1, _, A.2.2.2.1, ?_⟩)
  rw [A.2.2.2.2.2.2.1, h7]
  refine s4_takeKnown P hg A.2.2.2.2.1 A.2.2.2.2.2.1 (by decide) O8 A.2.2.2.2.2.2.2 O.2.2.2 (fun v hv => own_bar ho (by omega)) (fun h5 v et hv F P5 g5 => ⟨_, rfl, br_f (nI_pos (by omega)) ⟨P5.1.1, fun h9 e9 => ?_⟩⟩) (fun h5 e et F P5 E5 => ⟨_, rfl, br_t (by decide +kernel) (H2 h5 e et (F.mo (by simp) (by simp)) P5 E5)⟩)
  rw [F.gi (by simp), ha, nI_1shl (by omega), nI_or] at e9
  have F9 : fr [] [(1, 10)] h5 h9 := by rw [e9]; exact fr_pF (by simp) P5.1.1 rfl rfl
  exact H1 h9 v et hv ((F.mo (by simp) (by simp)).tr (F9.mo (by simp) (by simp))) (P5.fr F9 (by decide) (by decide) (by decide)) (g5.fr F9 (by simp)) (by rw [e9, gI_pF_s P5.1.1 (by decide)])
theorem s4_takeStreet {as_ : Nat} (P : cPs h n bs c i) (hg : cGd h) (A : cKy h t K) (O : kyO K) (r3 : gR h 1 3 = some t) (ha : gI h 1 11 = nI as_) (ht : t = 70 ∨ t = 77)
    (H1 : ∀ h' p, srB n bs K i = .inr p → p.2 ≤ K.2.1.1 → fr [] ((1, 11) :: YC) h h' → cPs h' n bs c p.1 → cGd h' → gI h' 1 11 = nI (as_ ||| 2 ^ p.2) → Q (some (.int (nI p.2))) h') (H2 : ∀ h' e j, srB n bs K i = .inl e → fr [] ((1, 11) :: YC) h h' → cPs h' n bs c j → cFl h' e → Q (some (.int (-1))) h') : zC mX4_takeStreet [.ref 1] h Q := by
  have b31 := (tk_k (n := n) (bs := bs) i).1
  have L := P.1
  have O4 := O.2.1.1
  unfold srB at H1 H2
  refine nX4_takeStreet _ _ _ (bX4_takeStreet_0 _ _ _ ⟨L.1, _, L.2.1, L.2.2.2.2.1.1, ?_⟩)
  rw [P.2.2.2.2.1, nI_lit 12, nI_eq (by omega) (by decide)]
  refine ⟨fun q => s8_advance L.2.2.2.2 P.2 (fun h5 F5 C5 => ?_), fun q h16 e16 => ?_⟩
  · rw [nxi_s P.2 (by omega) (by omega)] at C5
    have P5 : cPs h5 n bs c (i + 1) := ⟨L.fr F5 (by simp) (by decide) (by simp) (by simp) (by simp), C5⟩
    have A5 := A.fr F5 (by simp) (by simp) (by simp) (fun f _ => by rcases ht with rfl | rfl <;> simp)
    have g5 := hg.fr F5 (by simp)
    rw [if_pos q] at H1 H2
    refine ⟨rfl, P5.1.1, _, by rw [F5.gr (by simp)]; exact r3, A5.1, _, A5.2.2.1.1, ?_⟩
    rw [A5.2.2.1.2.2.2.1]
    refine s4_takeKnown P5 g5 A5.2.2.1.2.1 A5.2.2.1.2.2.1 (by decide) O4 A5.2.2.1.2.2.2.2 O.2.1.2 (fun v hv => no_bar v (by omega)) (fun h10 v et hv F P10 g10 => ⟨_, rfl, br_t (nI_pos' (by omega)) ⟨P10.1.1, fun h14 e14 => ?_⟩⟩) (fun h10 e et F P10 E10 => ⟨_, rfl, br_f (by decide +kernel) (H2 h10 e (i + 1) (by rw [et]) ((F5.mo (by simp) (by simp)).tr (F.mo (by simp) (by simp))) P10 E10)⟩)
    rw [F.gi (by simp), F5.gi (by simp), ha, nI_1, nI_1shl (by omega), nI_or] at e14
    rw [nI_1]
    have F14 : fr [] [(1, 11)] h10 h14 := by rw [e14]; exact fr_pF (by simp) P10.1.1 rfl rfl
    exact H1 h14 (i + 2, v + 1) (by rw [et]) (by show v + 1 ≤ _; omega) ((F5.mo (by simp) (by simp)).tr ((F.mo (by simp) (by simp)).tr (F14.mo (by simp) (by simp)))) (P10.fr F14 (by decide) (by decide) (by decide)) (g10.fr F14 (by simp)) (by rw [e14, gI_pF_s P10.1.1 (by decide)])
  · rw [if_neg q] at H1
    have e0 : (1 : Int32) <<< ((0 : Int32) &&& 31) = nI (2 ^ 0) := by decide +kernel
    rw [e0, ha, nI_or] at e16
    have F16 : fr [] [(1, 11)] h h16 := by rw [e16]; exact fr_pF (by simp) L.1 rfl rfl
    exact H1 h16 (i, 0) rfl (Nat.zero_le _) (F16.mo (by simp) (by simp)) (P.fr F16 (by decide) (by decide) (by decide)) (hg.fr F16 (by simp)) (by rw [e16, gI_pF_s L.1 (by decide)])
end

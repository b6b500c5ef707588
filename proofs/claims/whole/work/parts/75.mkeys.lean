/-! ===== names that were told: the reference ===== -/
section
variable {h h' : zH} {Q : Option Value → zH → Prop} {n i rb : Nat} {bs : Nat → Nat}
theorem wI0 : (1851878757 : Int64) = lN (wdM 0) := by rw [wdM_l]; rfl
theorem wI1 : (126943972648308 : Int64) = lN (wdM 1) := by rw [wdM_l]; rfl
theorem wI2 : (508676040050 : Int64) = lN (wdM 2) := by rw [wdM_l]; rfl
theorem wI3 : (24948 : Int64) = lN (wdM 3) := by rw [wdM_l]; rfl
theorem wI4 : (131277443786868 : Int64) = lN (wdM 4) := by rw [wdM_l]; rfl
theorem wI5 : (108170570395508 : Int64) = lN (wdM 5) := by rw [wdM_l]; rfl
theorem wI6 : (26982 : Int64) = lN (wdM 6) := by rw [wdM_l]; rfl
theorem wI7 : (1952998766 : Int64) = lN (wdM 7) := by rw [wdM_l]; rfl
theorem wI8 : (1701606245 : Int64) = lN (wdM 8) := by rw [wdM_l]; rfl
theorem wI9 : (422725119595 : Int64) = lN (wdM 9) := by rw [wdM_l]; rfl
theorem wI10 : (24947 : Int64) = lN (wdM 10) := by rw [wdM_l]; rfl
theorem wI11 : (1836020596 : Int64) = lN (wdM 11) := by rw [wdM_l]; rfl
theorem wI12 : (26990 : Int64) = lN (wdM 12) := by rw [wdM_l]; rfl
theorem wI13 : (112585980867444 : Int64) = lN (wdM 13) := by rw [wdM_l]; rfl
theorem wI14 : (28530 : Int64) = lN (wdM 14) := by rw [wdM_l]; rfl
theorem wI15 : (6385252 : Int64) = lN (wdM 15) := by rw [wdM_l]; rfl
theorem wI16 : (7237492 : Int64) = lN (wdM 16) := by rw [wdM_l]; rfl
theorem wI17 : (508676040051 : Int64) = lN (wdM 17) := by rw [wdM_l]; rfl
theorem wI18 : (108217630616435 : Int64) = lN (wdM 18) := by rw [wdM_l]; rfl
theorem wI19 : (26995 : Int64) = lN (wdM 19) := by rw [wdM_l]; rfl
/-- the first of n keys that is x -/
def fx (k : Nat → Nat) (x : Nat) : Nat → Option Nat
  | 0 => none
  | n + 1 => match fx k x n with
    | some j => some j
    | none => if k n = x then some n else none
theorem fx_some {k : Nat → Nat} {x : Nat} : ∀ {n j : Nat}, fx k x n = some j → j < n ∧ k j = x ∧ ∀ l, l < j → k l ≠ x
  | 0, j, e => by cases e
  | n + 1, j, e => by
    rw [fx] at e
    cases z : fx k x n with
    | some j' =>
      rw [z] at e
      have := fx_some z
      cases e
      exact ⟨by omega, this.2⟩
    | none =>
      rw [z] at e
      dsimp only at e
      by_cases w : k n = x
      · rw [if_pos w] at e
        cases e
        refine ⟨Nat.lt_succ_self _, w, fun l hl u => ?_⟩
        have : ∀ m, l < m → fx k x m ≠ none := by
          intro m
          induction m with
          | zero => intro hm; omega
          | succ m ih =>
            intro hm
            rw [fx]
            by_cases lm : l < m
            · cases y : fx k x m with
              | none => exact absurd y (ih lm)
              | some j' => simp
            · have : l = m := by omega
              subst this
              cases y : fx k x l with
              | none => rw [if_pos u]; simp
              | some j' => simp
        exact this _ hl z
      · rw [if_neg w] at e; cases e
theorem fx_none {k : Nat → Nat} {x : Nat} : ∀ {n : Nat}, fx k x n = none → ∀ l, l < n → k l ≠ x
  | 0, _, l, hl => by omega
  | n + 1, e, l, hl => by
    rw [fx] at e
    cases z : fx k x n with
    | some j' => rw [z] at e; cases e
    | none =>
      rw [z] at e
      dsimp only at e
      by_cases w : k n = x
      · rw [if_pos w] at e; cases e
      · by_cases u : l = n
        · rw [u]; exact w
        · exact fx_none z l (by omega)
theorem fx_of {k : Nat → Nat} {x n j : Nat} (hj : j < n) (e : k j = x) (ne : ∀ l, l < j → k l ≠ x) : fx k x n = some j := by
  cases z : fx k x n with
  | none => exact absurd e (fx_none z j hj)
  | some j' =>
    have f := fx_some z
    by_cases w : j' = j
    · rw [w]
    · exfalso
      by_cases u : j < j'
      · exact f.2.2 j u e
      · exact ne j' (by omega) f.2.1
theorem fx_no {k : Nat → Nat} {x n : Nat} (ne : ∀ l, l < n → k l ≠ x) : fx k x n = none := by
  cases z : fx k x n with
  | none => rfl
  | some j => exact absurd (fx_some z).2.1 (ne j (fx_some z).1)
/-- the keys: names, streets, voters -/
abbrev zKs : Type := (Nat × (Nat → Nat)) × (Nat × (Nat → Nat)) × (Nat × (Nat → Nat))
def kyR (k : Nat → Nat) (n : Nat) : Prop := (∀ j, j < n → k j < 32 ^ 8) ∧ ∀ a b, a < n → b < n → k a = k b → a = b
def kyO (K : zKs) : Prop := (K.1.1 ≤ 3 ∧ kyR K.1.2 K.1.1) ∧ (K.2.1.1 ≤ 4 ∧ kyR K.2.1.2 K.2.1.1) ∧ (K.2.2.1 ≤ 8 ∧ kyR K.2.2.2 K.2.2.1)
def mKy (h : zH) (rb : Nat) (K : zKs) : Prop := gI h 84 27 = nI rb ∧ rb < 2 ∧ (aI h 87 rb = nI K.1.1 ∧ ∀ j, j < K.1.1 → aL h 91 (3 * rb + j) = lN (cv (K.1.2 j))) ∧ (aI h 88 rb = nI K.2.1.1 ∧ ∀ j, j < K.2.1.1 → aL h 92 (4 * rb + j) = lN (cv (K.2.1.2 j))) ∧ (aI h 89 rb = nI K.2.2.1 ∧ ∀ j, j < K.2.2.1 → aL h 93 (8 * rb + j) = lN (cv (K.2.2.2 j)))
theorem mKy.fr {K : zKs} {X : List Nat} {Y : List (Nat × Nat)} (A : mKy h rb K) (F : fr X Y h h') (hX : [87, 88, 89, 91, 92, 93].all (fun k => !(X.contains k)) = true) (hY : (84, 27) ∉ Y) : mKy h' rb K := by
  simp only [List.all_cons, List.all_nil, and_true, Bool.and_eq_true] at hX
  obtain ⟨x1, x2, x3, x4, x5, x6⟩ := hX
  unfold mKy
  rw [F.gi hY, F.i (ni_of x1), F.i (ni_of x2), F.i (ni_of x3), F.l (ni_of x4), F.l (ni_of x5), F.l (ni_of x6)]
  exact A
theorem cv_lt {x : Nat} : ∀ d, x < 32 ^ d → cv x < 256 ^ d
  | 0, h => by
    have : x = 0 := by simpa using h
    subst this; decide
  | d + 1, h => by
    by_cases z : x = 0
    · subst z; exact Nat.pow_pos (by decide)
    · rw [Nat.pow_succ] at h
      have := cv_lt (x := x / 32) d (by omega)
      rw [cv_s z, Nat.pow_succ]; omega
theorem cv_64 {x : Nat} (h : x < 32 ^ 8) : cv x < 2 ^ 64 := Nat.lt_of_lt_of_le (cv_lt 8 h) (by decide)
/-- the lookup -/
def hx (t : zTk) (k : Nat → Nat) (m : Nat) : Option Nat := if t.1 = 20 then fx k t.2.2.1 m else none
theorem s12_here {row off m N : Nat} {k : Nat → Nat} (P : mPs h n bs i) (hl : lK h row) (hN : aN h row = N) (h31 : N < 2 ^ 31) (ho : off + m ≤ N) (A : ∀ j, j < m → aL h row (off + j) = lN (cv (k j))) (hk : ∀ j, j < m → k j < 32 ^ 8) (H : Q (some (.int (oI (hx (tk n bs i) k m)))) h) : zC mX12_here [.ref 84, .ref row, .int (nI off), .int (nI m)] h Q := by
  have b31 := (tk_k (n := n) (bs := bs) i).1
  have k2 := (mkk_lt (k := (tk n bs i).1) (by omega)).2.2.1
  have o := (tk_o (n := n) (bs := bs) i).2.2.1
  have go : ∀ (d j : Nat), j + d = m → ((tk n bs i).1 = 20 → ∀ l, l < j → k l ≠ (tk n bs i).2.2.1) → zX mX12_here 3 [.ref 84, .ref row, .int (nI off), .int (nI m), .int (nI j)] [] h Q := by
    intro d
    induction d with
    | zero =>
      intro j hj ne
      have : j = m := by omega
      subst this
      refine bX12_here_3 _ _ _ _ _ _ _ (br_t (nI_le (Nat.le_refl _) (by omega)) ?_)
      have e : hx (tk n bs i) k j = none := by
        unfold hx
        split
        · rename_i w; exact fx_no (ne w)
        · rfl
      rw [e] at H
      exact H
    | succ d ih =>
      intro j hj ne
      have nx := fun w => ih (j + 1) (by omega) w
      refine bX12_here_3 _ _ _ _ _ _ _ (br_f (nI_ge (by omega) (by omega)) ⟨P.1.o, ?_⟩)
      rw [nI_lit 2, P.2.2.tk b31 2 (by decide), k2, nI_add, nI_1]
      refine ⟨fun q => ⟨hl, by rw [hN]; exact vp_in_nI (by omega) h31, ?_⟩, fun q => nx (fun w => absurd w q)⟩
      rw [nI_clamp (by omega), A j (by omega), P.2.2.2.2.2.1 (by omega), lg_cmp_eq, lN_eq6 (cv_64 (hk j (by omega))) (cv_64 (o (by omega))), cv_iff]
      refine ⟨fun z => ?_, fun z => nx (fun w l hl => ?_)⟩
      · have e : hx (tk n bs i) k m = some j := by
          unfold hx
          rw [if_pos q]
          exact fx_of (by omega) z (ne q)
        rw [e] at H
        exact H
      · by_cases u : l = j
        · rw [u]; exact z
        · exact ne w l (by omega)
  exact nX12_here _ _ _ _ _ _ (bX12_here_0 _ _ _ _ _ _ (go m 0 (by omega) (fun _ l hl => absurd hl (Nat.not_lt_zero _))))
variable {K : zKs}
theorem s12_nameHere (P : mPs h n bs i) (A : mKy h rb K) (O : kyO K) (H : Q (some (.int (oI (hx (tk n bs i) K.1.2 K.1.1)))) h) : zC mX12_nameHere [.ref 84] h Q := by
  have M := P.1
  have rl := A.2.1
  have O1 := O.1.1
  refine nX12_nameHere _ _ _ (bX12_nameHere_0 _ _ _ ⟨M.o, _, M.r15, _, M.r11, M.k11, ?_⟩)
  rw [A.1, nI_clamp (by omega), A.2.2.1.1, nI_lit 3, pk_mul]
  exact ⟨by rw [M.n11]; exact vp_in_nI (by omega) (by decide), s12_here P M.k15 M.n15 (by decide) (by omega) A.2.2.1.2 O.1.2.1 ⟨_, rfl, H⟩⟩
theorem s12_streetHere (P : mPs h n bs i) (A : mKy h rb K) (O : kyO K) (H : Q (some (.int (oI (hx (tk n bs i) K.2.1.2 K.2.1.1)))) h) : zC mX12_streetHere [.ref 84] h Q := by
  have M := P.1
  have rl := A.2.1
  have O1 := O.2.1.1
  refine nX12_streetHere _ _ _ (bX12_streetHere_0 _ _ _ ⟨M.o, _, M.r16, _, M.r12, M.k12, ?_⟩)
  rw [A.1, nI_clamp (by omega), A.2.2.2.1.1, nI_lit 4, pk_mul]
  exact ⟨by rw [M.n12]; exact vp_in_nI (by omega) (by decide), s12_here P M.k16 M.n16 (by decide) (by omega) A.2.2.2.1.2 O.2.1.2.1 ⟨_, rfl, H⟩⟩
theorem s12_voterHere (P : mPs h n bs i) (A : mKy h rb K) (O : kyO K) (H : Q (some (.int (oI (hx (tk n bs i) K.2.2.2 K.2.2.1)))) h) : zC mX12_voterHere [.ref 84] h Q := by
  have M := P.1
  have rl := A.2.1
  have O1 := O.2.2.1
  refine nX12_voterHere _ _ _ (bX12_voterHere_0 _ _ _ ⟨M.o, _, M.r17, _, M.r13, M.k13, ?_⟩)
  rw [A.1, nI_clamp (by omega), A.2.2.2.2.1, nI_lit 8, pk_mul]
  exact ⟨by rw [M.n13]; exact vp_in_nI (by omega) (by decide), s12_here P M.k17 M.n17 (by decide) (by omega) A.2.2.2.2.2 O.2.2.2.1 ⟨_, rfl, H⟩⟩
/-- a name that was told is taken -/
def tkN (t : zTk) (k : Nat → Nat) (m : Nat) (bar : Nat → Bool) : (Nat × Nat) ⊕ Nat :=
  if t.1 = 20 then (match fx k t.2.2.1 m with
    | none => .inl (5, t.2.1)
    | some v => if bar v = true then .inl (3, t.2.1) else .inr v) else .inl (mpk 2 t)
abbrev YM : List (Nat × Nat) := [(84, 4), (84, 5), (84, 6), (84, 7), (84, 8), (84, 9), (84, 10)]
/-- behind a fault: some token is looked at -/
def mLo (h : zH) (n : Nat) (bs : Nat → Nat) (e : Nat × Nat) : Prop := (∃ j, mPs h n bs j) ∧ mFl h e
theorem s12_told {k : Nat → Nat} {m : Nat} (P : mPs h n bs i) (hg : mGd h) (hm : m ≤ 2 ^ 31) (H1 : ∀ h' v, tkN (tk n bs i) k m (fun _ => false) = .inr v → fr [] YM h h' → mPs h' n bs (i + 1) → mGd h' → Q (some (.int (nI v))) h') (H2 : ∀ h' e v, tkN (tk n bs i) k m (fun _ => false) = .inl e → fr [] YM h h' → mLo h' n bs e → v < 2 ^ 31 → Q (some (.int (nI v))) h') : zC mX12_told [.ref 84, .int (oI (hx (tk n bs i) k m))] h Q := by
  have b31 := (tk_k (n := n) (bs := bs) i).1
  have k2 := (mkk_lt (k := (tk n bs i).1) (by omega)).2.2.1
  have M := P.1
  -- a fault
  have flt : ∀ (h8 : zH) (e : Nat × Nat) (r : Option Nat), (∀ u, r = some u → u < 2 ^ 31) → tkN (tk n bs i) k m (fun _ => false) = .inl e → fr [] YE h h8 → mFl h8 e → zX mX12_told 37 [.ref 84, .int (oI r)] [] h8 Q := fun h8 e r hr he F E => by
    have M8 : mLay h8 := M.fr F (by decide)
    refine bX12_told_37 _ _ _ _ ⟨M8.o, s12_isGood M8 (fun g => absurd g E.ne) (fun g => ⟨_, rfl, br_t rfl ?_⟩)⟩
    have G : fr [] YM h h8 := F.mo (by simp) (by simp)
    have L8 : mLo h8 n bs e := ⟨⟨i, P.fr F (by simp) (by decide) (by simp) (by decide)⟩, E⟩
    cases r with
    | none => exact br_f (by decide +kernel) (H2 h8 e 0 he G L8 (by decide))
    | some u => exact br_t (nI_pos' (hr u rfl)) (H2 h8 e u he G L8 (hr u rfl))
  refine nX12_told _ _ _ _ (bX12_told_0 _ _ _ _ ⟨M.o, s12_isGood M (fun _ => ⟨_, rfl, br_f (by decide +kernel) ⟨M.o, ?_⟩⟩) (fun g => absurd hg g)⟩)
  rw [nI_lit 2, P.2.2.tk b31 2 (by decide), k2]
  refine ⟨fun q => ?_, fun q => s12_misplaced P hg (fun h' F E => ⟨rfl, flt h' _ _ ?_ ?_ F E⟩)⟩
  · have eh : hx (tk n bs i) k m = fx k (tk n bs i).2.2.1 m := by unfold hx; rw [if_pos q]
    have et : tkN (tk n bs i) k m (fun _ => false) = (match fx k (tk n bs i).2.2.1 m with
      | none => .inl (5, (tk n bs i).2.1)
      | some v => .inr v) := by unfold tkN; rw [if_pos q]; cases fx k (tk n bs i).2.2.1 m <;> rfl
    rw [eh]
    cases z : fx k (tk n bs i).2.2.1 m with
    | none =>
      rw [z] at et
      refine br_f (by decide +kernel) ?_
      rw [P.2.2.1]
      exact s12_fails (k := 5) M (by decide) hg (fun h' F E => ⟨rfl, flt h' _ none (fun u w => by cases w) et F E⟩)
    | some v =>
      rw [z] at et
      have v31 : v < 2 ^ 31 := by have := (fx_some z).1; omega
      refine br_t (nI_pos' v31) (bX12_told_37 _ _ _ _ ⟨M.o, s12_isGood M (fun _ => ⟨_, rfl, br_f (by decide +kernel) ⟨M.o, s12_goOnT P (fun h' F P' => ⟨rfl, br_t (nI_pos' v31) ?_⟩)⟩⟩) (fun g => absurd hg g)⟩)
      exact H1 h' v et (F.mo (by simp) (by simp)) P' (hg.fr F (by simp))
  · unfold hx; rw [if_neg q]; exact fun u w => by cases w
  · unfold tkN; rw [if_neg q]
theorem s12_told0 {e : Nat × Nat} {x : Int32} (M : mLay h) (E : mFl h e) (H : Q (some (.int 0)) h) : zC mX12_told [.ref 84, .int x] h Q :=
  nX12_told _ _ _ _ (bX12_told_0 _ _ _ _ ⟨M.o, s12_isGood M (fun g => absurd g E.ne) (fun _ => ⟨_, rfl, br_t rfl H⟩)⟩)
theorem s12_other {own : Nat} (P : mPs h n bs i) (A : mKy h rb K) (O : kyO K) (hg : mGd h) (h33 : gI h 84 33 = nI own) (ho : own < 8) (H1 : ∀ h' v, tkN (tk n bs i) K.2.2.2 K.2.2.1 (fun v => v == own) = .inr v → fr [] YM h h' → mPs h' n bs (i + 1) → mGd h' → Q (some (.int (nI v))) h') (H2 : ∀ h' e v, tkN (tk n bs i) K.2.2.2 K.2.2.1 (fun v => v == own) = .inl e → fr [] YM h h' → mLo h' n bs e → v < 2 ^ 31 → Q (some (.int (nI v))) h') : zC mX12_other [.ref 84] h Q := by
  have M := P.1
  have O8 := O.2.2.1
  refine nX12_other _ _ _ (bX12_other_0 _ _ _ ⟨M.o, s12_voterHere P A O ⟨_, rfl, M.o, s12_isGood M (fun _ => ⟨_, rfl, br_f (by decide +kernel) ⟨M.o, ?_⟩⟩) (fun g => absurd hg g)⟩⟩)
  rw [h33, P.2.2.1]
  refine ⟨fun q => s12_fails (k := 3) M (by decide) hg (fun h' F E => ?_), fun q => s12_told P hg (by omega) (fun h' v et F P' g' => ⟨_, rfl, H1 h' v ?_ F P' g'⟩) (fun h' e v et F E hv => ⟨_, rfl, H2 h' e v ?_ F E hv⟩)⟩
  · have M' : mLay h' := M.fr F (by decide)
    have er : hx (tk n bs i) K.2.2.2 K.2.2.1 = some own := by
      cases z : hx (tk n bs i) K.2.2.2 K.2.2.1 with
      | none => rw [z] at q; have w := nI_pos' (n := own) (by omega); rw [← q] at w; exact absurd w (by decide +kernel)
      | some v =>
        rw [z] at q
        have v8 : v < 8 := by
          unfold hx at z
          split at z
          · have := (fx_some z).1; omega
          · cases z
        rw [(nI_eq (by omega) (by omega)).mp q]
    have et : tkN (tk n bs i) K.2.2.2 K.2.2.1 (fun v => v == own) = .inl (3, (tk n bs i).2.1) := by
      unfold hx at er
      unfold tkN
      split at er
      · rename_i w
        rw [if_pos w, er]; simp
      · cases er
    exact ⟨rfl, M'.o, s12_told0 M' E ⟨_, rfl, H2 h' _ 0 et (F.mo (by simp) (by simp)) ⟨⟨i, P.fr F (by simp) (by decide) (by simp) (by decide)⟩, E⟩ (by decide)⟩⟩
  · have ne : ∀ v, fx K.2.2.2 (tk n bs i).2.2.1 K.2.2.1 = some v → (tk n bs i).1 = 20 → v ≠ own := fun v z w u => by
      apply q
      unfold hx
      rw [if_pos w, z, u]; rfl
    unfold tkN at et ⊢
    split at et
    · rename_i w
      rw [if_pos w]
      cases z : fx K.2.2.2 (tk n bs i).2.2.1 K.2.2.1 with
      | none => rw [z] at et; cases et
      | some u =>
        rw [z] at et
        dsimp only at et ⊢
        rw [if_neg (by decide)] at et
        rw [if_neg (by simpa using ne u z w)]
        exact et
    · cases et
  · have ne : ∀ v, fx K.2.2.2 (tk n bs i).2.2.1 K.2.2.1 = some v → (tk n bs i).1 = 20 → v ≠ own := fun v z w u => by
      apply q
      unfold hx
      rw [if_pos w, z, u]; rfl
    unfold tkN at et ⊢
    split at et
    · rename_i w
      rw [if_pos w]
      cases z : fx K.2.2.2 (tk n bs i).2.2.1 K.2.2.1 with
      | none => rw [z] at et; exact et
      | some u =>
        rw [z] at et
        dsimp only at et
        rw [if_neg (by decide)] at et
        cases et
    · rename_i w
      rw [if_neg w]; exact et
/-- a street behind a unit: everywhere is 0 -/
def srB (n : Nat) (bs : Nat → Nat) (K : zKs) (i : Nat) : (Nat × Nat) ⊕ (Nat × Nat) :=
  if (tk n bs i).1 = 12 then (match tkN (tk n bs (i + 1)) K.2.1.2 K.2.1.1 (fun _ => false) with
    | .inl e => .inl e
    | .inr v => .inr (i + 2, v + 1)) else .inr (i, 0)
theorem s12_streetBehind (P : mPs h n bs i) (A : mKy h rb K) (O : kyO K) (hg : mGd h) (H1 : ∀ h' p, srB n bs K i = .inr p → fr [] YM h h' → mPs h' n bs p.1 → mGd h' → Q (some (.int (nI p.2 + (-1)))) h') (H2 : ∀ h' e x, srB n bs K i = .inl e → fr [] YM h h' → mLo h' n bs e → Q (some (.int x)) h') : zC mX12_streetBehind [.ref 84] h Q := by
  have M := P.1
  have O4 := O.2.1.1
  unfold srB at H1 H2
  refine nX12_streetBehind _ _ _ (bX12_streetBehind_0 _ _ _ ⟨M.o, s12_isGood M (fun _ => ⟨_, rfl, br_f (by decide +kernel) ⟨M.o, s12_isWord (k := 12) P (by decide) wI12 (fun q => ⟨_, rfl, br_f (by decide +kernel) ⟨M.o, s12_goOnT P (fun h1 F1 P1 => ⟨rfl, P1.1.o, ?_⟩)⟩⟩) (fun q => ⟨_, rfl, br_t rfl ?_⟩)⟩⟩) (fun g => absurd hg g)⟩)
  · have A1 := A.fr F1 (by decide) (by simp)
    have g1 : mGd h1 := hg.fr F1 (by simp)
    have G1 : fr [] YM h h1 := F1.mo (by simp) (by simp)
    rw [if_pos q] at H1 H2
    refine s12_streetHere P1 A1 O ⟨_, rfl, P1.1.o, s12_told P1 g1 (by omega) (fun h' v et F P' g' => ⟨_, rfl, ?_⟩) (fun h' e v et F E hv => ⟨_, rfl, ?_⟩)⟩
    · have := H1 h' (i + 2, v + 1) (by rw [et]) (G1.tr F) P' g'
      rw [pk_m1] at this
      exact this
    · exact H2 h' e _ (by rw [et]) (G1.tr F) E
  · rw [if_neg q] at H1
    have e : nI (0 : Nat) + (-1) = -1 := by decide +kernel
    have r := H1 h (i, 0) rfl fr.rf P hg
    dsimp only at r
    rw [e] at r
    exact r
end

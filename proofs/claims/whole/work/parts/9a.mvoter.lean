/-! ===== the reference reads a line: names, streets, voters ===== -/
section
variable {h h' h0 : zH} {Q : Option Value → zH → Prop} {n i rb : Nat} {bs : Nat → Nat} {r : zRl} {e : Nat × Nat} {s : zFt ⊕ Nat}
def rlT (r : zRl) : Nat := sm (fun v => if r.2.1 v = true then 1 else 0) 0 8
/-- the roll, in bank rb -/
def mRl (h : zH) (rb : Nat) (r : zRl) : Prop := mKy h rb r.1.1 ∧ (∀ v, v < r.1.1.2.2.1 → aI h 94 (8 * rb + v) = nI (r.1.2.1 v) ∧ aI h 95 (8 * rb + v) = nI (r.1.2.2 v)) ∧ (∀ v, v < 8 → aI h 96 (8 * rb + v) = (if r.2.1 v = true then 1 else 0)) ∧ aI h 90 rb = nI (rlT r) ∧ ∀ v, v < 8 → mBl h (8 * rb + v) (r.2.2 v).1 (r.2.2 v).2.1 (r.2.2 v).2.2
theorem mBl.fr {X : List Nat} {Y : List (Nat × Nat)} {p m u : Nat} {c : Nat → zOp} (B : mBl h p m c u) (F : fr X Y h h') (hX : [97, 98, 99, 100, 101].all (fun k => !(X.contains k)) = true) : mBl h' p m c u := by
  simp only [List.all_cons, List.all_nil, and_true, Bool.and_eq_true] at hX
  obtain ⟨x1, x2, x3, x4, x5⟩ := hX
  exact ⟨B.1.fr F (by simp only [List.all_cons, List.all_nil, and_true, Bool.and_eq_true]; exact ⟨x1, x3, x4, x5⟩), by rw [F.i (ni_of x2)]; exact B.2⟩
theorem mRl.fr {X : List Nat} {Y : List (Nat × Nat)} (A : mRl h rb r) (F : fr X Y h h') (hX : [87, 88, 89, 90, 91, 92, 93, 94, 95, 96, 97, 98, 99, 100, 101].all (fun k => !(X.contains k)) = true) (hY : (84, 27) ∉ Y) : mRl h' rb r := by
  simp only [List.all_cons, List.all_nil, and_true, Bool.and_eq_true] at hX
  obtain ⟨x1, x2, x3, x4, x5, x6, x7, x8, x9, x10, x11, x12, x13, x14, x15⟩ := hX
  obtain ⟨a1, a2, a3, a4, a5⟩ := A
  refine ⟨a1.fr F ?_ hY, fun v hv => ?_, fun v hv => ?_, ?_, fun v hv => (a5 v hv).fr F ?_⟩
  · simp only [List.all_cons, List.all_nil, and_true, Bool.and_eq_true]; exact ⟨x1, x2, x3, x5, x6, x7⟩
  · rw [F.i (ni_of x8), F.i (ni_of x9)]; exact a2 v hv
  · rw [F.i (ni_of x10)]; exact a3 v hv
  · rw [F.i (ni_of x4)]; exact a4
  · simp only [List.all_cons, List.all_nil, and_true, Bool.and_eq_true]; exact ⟨x11, x12, x13, x14, x15⟩
theorem mRl.kl {a j : Nat} {v : Int64} (A : mRl h rb r) (hc : (a = 91 ∧ j = 3 * rb + r.1.1.1.1) ∨ (a = 92 ∧ j = 4 * rb + r.1.1.2.1.1) ∨ (a = 93 ∧ j = 8 * rb + r.1.1.2.2.1)) : mRl (pL h a j v) rb r := by
  have hj : ∀ c k, (c ≠ a ∨ k ≠ j) → aL (pL h a j v) c k = aL h c k := fun c k hc => aL_pL_n hc
  obtain ⟨⟨k1, k2, k3, k4, k5⟩, a2, a3, a4, a5⟩ := A
  refine ⟨⟨by rw [gI_pL]; exact k1, k2, ⟨by rw [aI_pL]; exact k3.1, fun x hx => ?_⟩, ⟨by rw [aI_pL]; exact k4.1, fun x hx => ?_⟩, ⟨by rw [aI_pL]; exact k5.1, fun x hx => ?_⟩⟩, fun v hv => ?_, fun v hv => ?_, ?_, fun v hv => ?_⟩
  · rw [hj _ _ (by omega)]; exact k3.2 x hx
  · rw [hj _ _ (by omega)]; exact k4.2 x hx
  · rw [hj _ _ (by omega)]; exact k5.2 x hx
  · rw [aI_pL, aI_pL]; exact a2 v hv
  · rw [aI_pL]; exact a3 v hv
  · rw [aI_pL]; exact a4
  · exact (a5 v hv).fr (X := [a]) (Y := []) (fr_pL (by simp)) (by rcases hc with ⟨rfl, -⟩ | ⟨rfl, -⟩ | ⟨rfl, -⟩ <;> decide)
theorem mRl.ki {a j : Nat} {v : Int32} (A : mRl h rb r) (hc : (a = 94 ∨ a = 95) ∧ j = 8 * rb + r.1.1.2.2.1) : mRl (pI h a j v) rb r := by
  have hj : ∀ c k, (c ≠ a ∨ k ≠ j) → aI (pI h a j v) c k = aI h c k := fun c k hc => aI_pI_n hc
  obtain ⟨⟨k1, k2, k3, k4, k5⟩, a2, a3, a4, a5⟩ := A
  refine ⟨⟨by rw [gI_pI]; exact k1, k2, ⟨by rw [hj _ _ (by omega)]; exact k3.1, fun x hx => ?_⟩, ⟨by rw [hj _ _ (by omega)]; exact k4.1, fun x hx => ?_⟩, ⟨by rw [hj _ _ (by omega)]; exact k5.1, fun x hx => ?_⟩⟩, fun v hv => ?_, fun v hv => ?_, ?_, fun v hv => ?_⟩
  · rw [aL_pI]; exact k3.2 x hx
  · rw [aL_pI]; exact k4.2 x hx
  · rw [aL_pI]; exact k5.2 x hx
  · rw [hj _ _ (by omega), hj _ _ (by omega)]; exact a2 v hv
  · rw [hj _ _ (by omega)]; exact a3 v hv
  · rw [hj _ _ (by omega)]; exact a4
  · exact (a5 v hv).fr (X := [a]) (Y := []) (fr_pI (by simp)) (by rcases hc with ⟨rfl | rfl, -⟩ <;> decide)
theorem up_s {α : Type} {f : Nat → α} {k : Nat} {x : α} : va_up f k x k = x := by unfold va_up; rw [if_pos rfl]
theorem up_n {α : Type} {f : Nat → α} {k j : Nat} {x : α} (hj : j ≠ k) : va_up f k x j = f j := by unfold va_up; rw [if_neg hj]
theorem mRl.bN {x : Nat} {w : Int32} (A : mRl h rb r) (M : mLay h) (e : aL h 91 (3 * rb + r.1.1.1.1) = lN (cv x)) (hw : w = nI (r.1.1.1.1 + 1)) : mRl (pI h 87 rb w) rb (rN r x) := by
  have hj : ∀ c k, (c ≠ 87 ∨ k ≠ rb) → aI (pI h 87 rb w) c k = aI h c k := fun c k hc => aI_pI_n hc
  obtain ⟨⟨k1, k2, k3, k4, k5⟩, a2, a3, a4, a5⟩ := A
  refine ⟨⟨by rw [gI_pI]; exact k1, k2, ⟨?_, fun y hy => ?_⟩, ⟨by rw [hj _ _ (Or.inl (by decide))]; exact k4.1, fun y hy => by rw [aL_pI]; exact k4.2 y hy⟩, ⟨by rw [hj _ _ (Or.inl (by decide))]; exact k5.1, fun y hy => by rw [aL_pI]; exact k5.2 y hy⟩⟩, fun v hv => ?_, fun v hv => ?_, ?_, fun v hv => (a5 v hv).fr (X := [87]) (Y := []) (fr_pI (by simp)) (by decide)⟩
  · rw [aI_pI_s ⟨_, M.k11⟩, hw]; rfl
  · rw [aL_pI]
    show _ = lN (cv (va_up r.1.1.1.2 r.1.1.1.1 x y))
    have hy' : y < r.1.1.1.1 + 1 := hy
    by_cases z : y = r.1.1.1.1
    · rw [z, up_s]; exact e
    · rw [up_n z]; exact k3.2 y (by omega)
  · rw [hj _ _ (Or.inl (by decide)), hj _ _ (Or.inl (by decide))]; exact a2 v hv
  · rw [hj _ _ (Or.inl (by decide))]; exact a3 v hv
  · rw [hj _ _ (Or.inl (by decide))]; exact a4
theorem mRl.bS {x : Nat} {w : Int32} (A : mRl h rb r) (M : mLay h) (e : aL h 92 (4 * rb + r.1.1.2.1.1) = lN (cv x)) (hw : w = nI (r.1.1.2.1.1 + 1)) : mRl (pI h 88 rb w) rb (rS r x) := by
  have hj : ∀ c k, (c ≠ 88 ∨ k ≠ rb) → aI (pI h 88 rb w) c k = aI h c k := fun c k hc => aI_pI_n hc
  obtain ⟨⟨k1, k2, k3, k4, k5⟩, a2, a3, a4, a5⟩ := A
  refine ⟨⟨by rw [gI_pI]; exact k1, k2, ⟨by rw [hj _ _ (Or.inl (by decide))]; exact k3.1, fun y hy => by rw [aL_pI]; exact k3.2 y hy⟩, ⟨?_, fun y hy => ?_⟩, ⟨by rw [hj _ _ (Or.inl (by decide))]; exact k5.1, fun y hy => by rw [aL_pI]; exact k5.2 y hy⟩⟩, fun v hv => ?_, fun v hv => ?_, ?_, fun v hv => (a5 v hv).fr (X := [88]) (Y := []) (fr_pI (by simp)) (by decide)⟩
  · rw [aI_pI_s ⟨_, M.k12⟩, hw]; rfl
  · rw [aL_pI]
    show _ = lN (cv (va_up r.1.1.2.1.2 r.1.1.2.1.1 x y))
    have hy' : y < r.1.1.2.1.1 + 1 := hy
    by_cases z : y = r.1.1.2.1.1
    · rw [z, up_s]; exact e
    · rw [up_n z]; exact k4.2 y (by omega)
  · rw [hj _ _ (Or.inl (by decide)), hj _ _ (Or.inl (by decide))]; exact a2 v hv
  · rw [hj _ _ (Or.inl (by decide))]; exact a3 v hv
  · rw [hj _ _ (Or.inl (by decide))]; exact a4
theorem mRl.bV {x st g : Nat} {w : Int32} (A : mRl h rb r) (M : mLay h) (e : aL h 93 (8 * rb + r.1.1.2.2.1) = lN (cv x)) (e2 : aI h 94 (8 * rb + r.1.1.2.2.1) = nI st) (e3 : aI h 95 (8 * rb + r.1.1.2.2.1) = nI g) (hw : w = nI (r.1.1.2.2.1 + 1)) : mRl (pI h 89 rb w) rb (rV r x st g) := by
  have hj : ∀ c k, (c ≠ 89 ∨ k ≠ rb) → aI (pI h 89 rb w) c k = aI h c k := fun c k hc => aI_pI_n hc
  obtain ⟨⟨k1, k2, k3, k4, k5⟩, a2, a3, a4, a5⟩ := A
  refine ⟨⟨by rw [gI_pI]; exact k1, k2, ⟨by rw [hj _ _ (Or.inl (by decide))]; exact k3.1, fun y hy => by rw [aL_pI]; exact k3.2 y hy⟩, ⟨by rw [hj _ _ (Or.inl (by decide))]; exact k4.1, fun y hy => by rw [aL_pI]; exact k4.2 y hy⟩, ⟨?_, fun y hy => ?_⟩⟩, fun v hv => ?_, fun v hv => ?_, ?_, fun v hv => (a5 v hv).fr (X := [89]) (Y := []) (fr_pI (by simp)) (by decide)⟩
  · rw [aI_pI_s ⟨_, M.k13⟩, hw]; rfl
  · rw [aL_pI]
    show _ = lN (cv (va_up r.1.1.2.2.2 r.1.1.2.2.1 x y))
    have hy' : y < r.1.1.2.2.1 + 1 := hy
    by_cases z : y = r.1.1.2.2.1
    · rw [z, up_s]; exact e
    · rw [up_n z]; exact k5.2 y (by omega)
  · rw [hj _ _ (Or.inl (by decide)), hj _ _ (Or.inl (by decide))]
    show _ = nI (va_up r.1.2.1 r.1.1.2.2.1 st v) ∧ _ = nI (va_up r.1.2.2 r.1.1.2.2.1 g v)
    have hv' : v < r.1.1.2.2.1 + 1 := hv
    by_cases z : v = r.1.1.2.2.1
    · rw [z, up_s, up_s]; exact ⟨e2, e3⟩
    · rw [up_n z, up_n z]; exact a2 v (by omega)
  · rw [hj _ _ (Or.inl (by decide))]; exact a3 v hv
  · rw [hj _ _ (Or.inl (by decide))]; exact a4
/-- a line's end -/
theorem e12_tail (S : mEi h n bs s) (F0 : mFr rb h0 h) (A : ∀ e, s = .inl e → lnB n bs r i = .inl e) (B : ∀ i', s = .inr i' → ∃ r', lnB n bs r i = .inr (r', i') ∧ mRl h rb r')
    (H1 : ∀ h' q, ln n bs r i = .inr q → mFr rb h0 h' → mPs h' n bs q.2 → mGd h' → mRl h' rb q.1 → Q none h') (H2 : ∀ h' e, ln n bs r i = .inl e → mFr rb h0 h' → mLo h' n bs e → Q none h') : zX mX12_readLine 177 [.ref 84, .float 0, .float 0] [] h Q := by
  have s0 : (59 : Int32) = nI (sgL.getD 0 0) := by decide +kernel
  refine bX12_readLine_177 _ _ _ ⟨S.l.o, z12_stands (g := 0) S (by decide) s0 (fun x hx01 hx => ⟨_, rfl, S.l.o, z12_must (c := ∀ j, s = .inr j → (tk n bs j).1 = 22) S hx01 (fun j z => ?_) (fun h' s' F S' h1 h2 => ⟨rfl, ?_⟩)⟩)⟩
  · rw [hx j z]
    exact ⟨fun q k w => by rw [z] at w; cases w; exact q, fun q => q j z⟩
  · have F' : mFr rb h0 h' := F0.tr (mFr.of F (by decide) (by decide) (by decide))
    cases s with
    | inl e =>
      have e' := h1 e rfl
      subst e'
      refine H2 h' e ?_ F' S'
      unfold ln; rw [A e rfl]
    | inr j =>
      obtain ⟨r', er, A'⟩ := B j rfl
      have h2' := h2 j rfl
      by_cases q : (tk n bs j).1 = 22
      · have e' := h2'.1 (fun k w => by cases w; exact q)
        subst e'
        refine H1 h' (r', j + 1) ?_ F' S'.1 S'.2 (A'.fr F (by decide) (by simp))
        unfold ln; rw [er]
        show (if (tk n bs j).1 = 22 then _ else _) = _
        rw [if_pos q]
      · have e' := h2'.2 (fun w => q (w j rfl))
        subst e'
        refine H2 h' _ ?_ F' S'
        unfold ln; rw [er]
        show (if (tk n bs j).1 = 22 then _ else _) = _
        rw [if_neg q]
theorem hx_flag {k : Nat → Nat} {m : Nat} (hm : m < 2 ^ 31) {j : Nat} : ((oI (hx (tk n bs j) k m) : Int32) < 0 ↔ hx (tk n bs j) k m = none) := by
  cases z : hx (tk n bs j) k m with
  | none => exact ⟨fun _ => rfl, fun _ => by decide +kernel⟩
  | some v =>
    have v31 : v < m := by
      unfold hx at z
      split at z
      · exact (fx_some z).1
      · cases z
    exact ⟨fun y => absurd y (nI_pos (by omega)), fun y => by cases y⟩
/-- a voter's line -/
theorem s12_readVoter (O : rlO r) (A : mRl h rb r) (P : mPs h n bs (i + 1)) (hg : mGd h) (k2 : (tk n bs i).1 = 2) (n8 : r.1.1.2.2.1 ≠ 8) (H : ∀ h' s', mFr rb h h' → mEi h' n bs s' → (∀ e, s' = .inl e → lnB n bs r i = .inl e) → (∀ i', s' = .inr i' → ∃ r', lnB n bs r i = .inr (r', i') ∧ mRl h' rb r') → Q none h') : zC mX12_readVoter [.ref 84] h Q := by
  have M := P.1
  have K := A.1
  have v8 := O.1.2.2.1
  have s4 := O.1.2.1.1
  have rb2 := K.2.1
  have crb : (nI rb).toNatClampNeg = rb := nI_clamp (by omega)
  have cix : (nI (8 * rb + r.1.1.2.2.1)).toNatClampNeg = 8 * rb + r.1.1.2.2.1 := nI_clamp (by omega)
  have eL : lnB n bs r i = match tkF (tk n bs (i + 1)) r.1.1.2.2.2 r.1.1.2.2.1 with
    | .inl e => .inl e
    | .inr x => match tkW n bs 3 (i + 2) with
      | .inl e => .inl e
      | .inr _ => match tkN (tk n bs (i + 3)) r.1.1.2.1.2 r.1.1.2.1.1 (fun _ => false) with
        | .inl e => .inl e
        | .inr s => match tkW n bs 4 (i + 4) with
          | .inl e => .inl e
          | .inr _ => match tkG n bs (i + 5) with
            | .inl e => .inl e
            | .inr g => .inr (rV r x s g, i + 6) := by
    unfold lnB
    rw [if_neg (by omega), if_neg (by omega), if_pos k2, if_neg n8]
    rfl
  refine nX12_readVoter _ _ _ (bX12_readVoter_0 _ _ _ ⟨M.o, _, M.r13, M.k13, ?_⟩)
  rw [K.1, crb, K.2.2.2.2.1, M.n13, ix8]
  refine ⟨vp_in_nI rb2 (by decide), _, M.r17, ?_⟩
  -- behind the look at the name
  have go : ∀ f0 : Int32, (f0 = 0 ↔ hx (tk n bs (i + 1)) r.1.1.2.2.2 r.1.1.2.2.1 = none) → zX mX12_readVoter 36 [.ref 84, .int (nI (8 * rb + r.1.1.2.2.1))] [.int f0, .ref 84, .int (nI (8 * rb + r.1.1.2.2.1)), .ref 93] h Q := fun f0 hf0 => by
    refine bX12_readVoter_36 _ _ _ _ _ _ _ _ ⟨M.o, z12_fresh (s := .inr (i + 1)) ⟨P, hg⟩ (fun j z => by cases z; exact hf0) (fun h2 s1 v1 F2 S2 t1 t2 => ⟨_, rfl, F2.lk M.k17, by rw [F2.n, M.n17]; exact vp_in_nI (by omega) (by decide), fun h6 e6 => ?_⟩)⟩
    rw [cix] at e6
    have t2 := t2 (i + 1) rfl
    have W2 : mFr rb h h2 := mFr.of F2 (by decide) (by decide) (by decide)
    have G6 : fr [93] [] h2 h6 := by rw [e6]; exact fr_pL (by simp)
    have W6 : mFr rb h h6 := W2.tr (by rw [e6]; exact mFr_pL (Or.inr (Or.inr ⟨rfl, rfl, by omega⟩)))
    have S6 : mEi h6 n bs s1 := S2.fr G6 (by simp) (by decide) (by decide)
    have A6 : mRl h6 rb r := by rw [e6]; exact (A.fr F2 (by decide) (by simp)).kl (Or.inr (Or.inr ⟨rfl, rfl⟩))
    have x6 : aL h6 93 (8 * rb + r.1.1.2.2.1) = v1 := by rw [e6]; exact aL_pL_s (F2.lk M.k17)
    refine ⟨S6.l.o, z12_isWord (k := 3) S6 (by decide) wI3 (fun b9 b901 hb9 => ⟨_, rfl, S6.l.o, z12_must (c := ∀ j, s1 = .inr j → (tk n bs j).1 = 3) S6 b901 (fun j z => ?_) (fun h12 s2 F12 S12 u1 u2 => ⟨rfl, S12.l.o, _, S12.l.r18, ?_⟩)⟩)⟩
    · rw [hb9 j z]; exact ⟨fun q k w => by rw [z] at w; cases w; exact q, fun q => q j z⟩
    have A12 := A6.fr F12 (by decide) (by simp)
    obtain ⟨j12, P12⟩ := S12.p
    have here : ∃ x16 : Int32, (∀ j, s2 = .inr j → x16 = oI (hx (tk n bs j) r.1.1.2.1.2 r.1.1.2.1.1)) ∧ ∀ Q' : Option Value → zH → Prop, Q' (some (.int x16)) h12 → zC mX12_streetHere [.ref 84] h12 Q' := by
      cases s2 with
      | inl e => exact ⟨_, fun j z => (by cases z), fun Q' hq => s12_streetHere P12 A12.1 O.1 hq⟩
      | inr j => exact ⟨_, fun j' z => (by cases z; rfl), fun Q' hq => s12_streetHere S12.1 A12.1 O.1 hq⟩
    obtain ⟨x16, hx16, here⟩ := here
    refine here _ ⟨_, rfl, S12.l.o, z12_told S12 (by omega) hx16 (fun h18 s3 v3 F18 S18 w1 w2 => ⟨_, rfl, F18.ik S12.l.k18, by rw [F18.n, S12.l.n18]; exact vp_in_nI (by omega) (by decide), fun h22 e22 => ?_⟩)⟩
    rw [cix] at e22
    have G22 : fr [94] [] h18 h22 := by rw [e22]; exact fr_pI (by simp)
    have S22 : mEi h22 n bs s3 := S18.fr G22 (by simp) (by decide) (by decide)
    have A22 : mRl h22 rb r := by rw [e22]; exact (A12.fr F18 (by decide) (by simp)).ki ⟨Or.inl rfl, rfl⟩
    have W22 : mFr rb h h22 := W6.tr ((mFr.of F12 (by decide) (by decide) (by decide)).tr ((mFr.of F18 (by decide) (by decide) (by decide)).tr (by rw [e22]; exact mFr_pI (Or.inr ⟨Or.inl rfl, rfl, by omega⟩))))
    have x22 : aL h22 93 (8 * rb + r.1.1.2.2.1) = v1 := by rw [G22.l (by simp), F18.l (by simp), F12.l (by simp)]; exact x6
    have y22 : aI h22 94 (8 * rb + r.1.1.2.2.1) = nI v3 := by rw [e22]; exact aI_pI_s ⟨_, F18.ik S12.l.k18⟩
    refine ⟨S22.l.o, z12_isWord (k := 4) S22 (by decide) wI4 (fun b25 b2501 hb25 => ⟨_, rfl, S22.l.o, z12_must (c := ∀ j, s3 = .inr j → (tk n bs j).1 = 4) S22 b2501 (fun j z => ?_) (fun h28 s4' F28 S28 p1 p2 => ⟨rfl, S28.l.o, ?_⟩)⟩)⟩
    · rw [hb25 j z]; exact ⟨fun q k w => by rw [z] at w; cases w; exact q, fun q => q j z⟩
    have A28 := A22.fr F28 (by decide) (by simp)
    have W28 : mFr rb h h28 := W22.tr (mFr.of F28 (by decide) (by decide) (by decide))
    have x28 : aL h28 93 (8 * rb + r.1.1.2.2.1) = v1 := by rw [F28.l (by simp)]; exact x22
    have y28 : aI h28 94 (8 * rb + r.1.1.2.2.1) = nI v3 := by rw [F28.i (by simp)]; exact y22
    -- where that is, in the pure reading
    have C : (∃ e, s4' = .inl e ∧ lnB n bs r i = .inl e) ∨ (∃ x, s4' = .inr (i + 5) ∧ v1 = lN (cv x) ∧ lnB n bs r i = match tkG n bs (i + 5) with
            | .inl e => .inl e
            | .inr g => .inr (rV r x v3 g, i + 6)) := by
      cases z1 : tkF (tk n bs (i + 1)) r.1.1.2.2.2 r.1.1.2.2.1 with
      | inl e =>
        have q1 := t2.1 e z1
        exact Or.inl ⟨e, p1 e (w1 e (u1 e q1)), by rw [eL, z1]⟩
      | inr x =>
        have q1 := t2.2 x z1
        have u2 := u2 (i + 2) q1.1
        by_cases a3 : (tk n bs (i + 2)).1 = 3
        · have q2 := u2.1 (fun k w => by rw [q1.1] at w; cases w; exact a3)
          have z2 : tkW n bs 3 (i + 2) = .inr (i + 3) := by unfold tkW; rw [if_pos a3]
          have w2 := w2 (i + 3) q2
          cases z3 : tkN (tk n bs (i + 3)) r.1.1.2.1.2 r.1.1.2.1.1 (fun _ => false) with
          | inl e =>
            exact Or.inl ⟨e, p1 e (w2.1 e z3), by rw [eL, z1, z2]; simp only []; rw [z3]⟩
          | inr y =>
            have q3 := w2.2 y z3
            have p2 := p2 (i + 4) q3.1
            by_cases a4 : (tk n bs (i + 4)).1 = 4
            · have q4 := p2.1 (fun k w => by rw [q3.1] at w; cases w; exact a4)
              have z4 : tkW n bs 4 (i + 4) = .inr (i + 5) := by unfold tkW; rw [if_pos a4]
              exact Or.inr ⟨x, q4, q1.2, by rw [eL, z1, z2]; simp only []; rw [z3]; simp only []; rw [z4, q3.2]⟩
            · have q4 := p2.2 (fun w => a4 (w (i + 4) q3.1))
              have z4 : tkW n bs 4 (i + 4) = .inl (mp n bs (i + 4)) := by unfold tkW; rw [if_neg a4]
              exact Or.inl ⟨_, q4, by rw [eL, z1, z2]; simp only []; rw [z3]; simp only []; rw [z4]⟩
        · have q2 := u2.2 (fun w => a3 (w (i + 2) q1.1))
          have z2 : tkW n bs 3 (i + 2) = .inl (mp n bs (i + 2)) := by unfold tkW; rw [if_neg a3]
          exact Or.inl ⟨_, p1 _ (w1 _ q2), by rw [eL, z1, z2]⟩
    -- behind the weight, with a fault
    have bad : ∀ (h1 : zH) (e : zFt), mLo h1 n bs e → mFr rb h h1 → mKy h1 rb r.1.1 → lnB n bs r i = .inl e → zX mX12_readVoter 131 [.ref 84, .int (nI (8 * rb + r.1.1.2.2.1))] [] h1 Q := fun h1 e L1 W1 K1 el => by
      refine bX12_readVoter_131 _ _ _ _ ⟨L1.l.o, _, L1.l.r19, L1.l.k19, by rw [L1.l.n19]; exact vp_in_nI (by omega) (by decide), fun h5 e5 => ?_⟩
      rw [cix] at e5
      have G5 : fr [95] [] h1 h5 := by rw [e5]; exact fr_pI (by simp)
      have L5 := L1.fr G5 (by simp) (by decide) (by decide)
      have W5 : mFr rb h h5 := W1.tr (by rw [e5]; exact mFr_pI (Or.inr ⟨Or.inr (Or.inl rfl), rfl, by omega⟩))
      refine s12_isGood L5.l (fun g => absurd g L5.ng) (fun _ => ⟨_, rfl, br_t rfl ⟨L5.l.o, _, L5.l.r13, L5.l.k13, ?_⟩⟩)
      rw [G5.gi (by simp), K1.1, crb, L5.l.n13]
      refine ⟨vp_in_nI rb2 (by decide), vp_in_nI rb2 (by decide), fun h16 e16 => ?_⟩
      have G16 : fr [89] [] h5 h16 := by rw [e16]; exact fr_pI (by simp)
      exact H h16 (.inl e) (W5.tr (by rw [e16]; exact mFr_pI (x := 0) (Or.inl ⟨Or.inr (Or.inr (Or.inl rfl)), rfl⟩))) (L5.fr G16 (by simp) (by decide) (by decide)) (fun e' z => by cases z; exact el) (fun j z => by cases z)
    rcases C with ⟨e, es, el⟩ | ⟨x, es, ev, el⟩
    · subst es
      have L28 : mLo h28 n bs e := S28
      refine s12_isGood L28.l (fun g => absurd g L28.ng) (fun _ => ⟨_, rfl, br_t rfl (bX12_readVoter_98 _ _ _ _ ⟨L28.l.o, s12_isGood L28.l (fun g => absurd g L28.ng) (fun _ => ⟨_, rfl, br_t rfl (bad h28 e L28 W28 A28.1 el)⟩)⟩)⟩)
    · subst es
      have P28 := S28.1
      have g28 := S28.2
      have M28 := P28.1
      have b31 := (tk_k (n := n) (bs := bs) (i + 5)).1
      have kk := mkk_lt (k := (tk n bs (i + 5)).1) (by omega)
      refine s12_isGood M28 (fun _ => ⟨_, rfl, br_f (by decide +kernel) ⟨M28.o, ?_⟩⟩) (fun g => absurd g28 g)
      rw [nI_lit 4, P28.2.2.tk b31 4 (by decide), kk.2.2.2.1]
      refine ⟨fun q => ?_, fun q => s12_misplaced P28 g28 (fun h1 F1 E1 => ⟨rfl, bad h1 _ (lo_of P28 F1 E1) (W28.tr (mFr.of F1 (by decide) (by decide) (by decide))) (A28.fr F1 (by decide) (by simp)).1 (by rw [el]; unfold tkG; rw [if_neg q] <;> rfl)⟩)⟩
      have v9 := (tk_o (n := n) (bs := bs) (i + 5)).2.2.2.1 q
      have g9 : gI h28 84 9 = nI (tk n bs (i + 5)).2.2.1 := P28.2.2.2.2.2.2 q
      have f122 : ((tk n bs (i + 5)).2.2.1 < 1 ∨ 9 < (tk n bs (i + 5)).2.2.1) → zX mX12_readVoter 122 [.ref 84, .int (nI (8 * rb + r.1.1.2.2.1))] [] h28 Q := fun z => by
        refine bX12_readVoter_122 _ _ _ _ ⟨M28.o, ?_⟩
        rw [P28.2.2.1]
        exact s12_fails (k := 4) M28 (by decide) g28 (fun h1 F1 E1 => ⟨rfl, bad h1 _ (lo_of P28 F1 E1) (W28.tr (mFr.of F1 (by decide) (by decide) (by decide))) (A28.fr F1 (by decide) (by simp)).1 (by rw [el]; unfold tkG; rw [if_pos q, if_pos z])⟩)
      refine bX12_readVoter_98 _ _ _ _ ⟨M28.o, s12_isGood M28 (fun _ => ⟨_, rfl, br_f (by decide +kernel) ⟨M28.o, ?_⟩⟩) (fun g => absurd g28 g)⟩
      rw [g9, nI_lit 1, nI_lit 9, nI_ltI (by omega) (by decide), nI_leI (by omega) (by decide)]
      refine ⟨fun z => f122 (Or.inl z), fun z => ⟨fun z9 => ?_, fun z9 => f122 (Or.inr (by omega))⟩⟩
      have eg : lnB n bs r i = .inr (rV r x v3 (tk n bs (i + 5)).2.2.1, i + 6) := by rw [el]; unfold tkG; rw [if_pos q, if_neg (by omega)]
      refine bX12_readVoter_131 _ _ _ _ ⟨M28.o, _, M28.r19, M28.k19, by rw [M28.n19]; exact vp_in_nI (by omega) (by decide), fun h5 e5 => ?_⟩
      rw [cix, g9] at e5
      have G5 : fr [95] [] h28 h5 := by rw [e5]; exact fr_pI (by simp)
      have P5 : mPs h5 n bs (i + 5) := P28.fr G5 (by simp) (by decide) (by simp) (by decide)
      have g5 : mGd h5 := g28.fr G5 (by simp)
      have W5 : mFr rb h h5 := W28.tr (by rw [e5]; exact mFr_pI (Or.inr ⟨Or.inr (Or.inl rfl), rfl, by omega⟩))
      have A5 : mRl h5 rb r := by rw [e5]; exact A28.ki ⟨Or.inr rfl, rfl⟩
      have z5 : aI h5 95 (8 * rb + r.1.1.2.2.1) = nI (tk n bs (i + 5)).2.2.1 := by rw [e5]; exact aI_pI_s ⟨_, M28.k19⟩
      refine s12_isGood P5.1 (fun _ => ⟨_, rfl, br_f (by decide +kernel) ⟨P5.1.o, s12_goOnT P5 (fun h20 F20 P20 => ⟨rfl, P20.1.o, _, P20.1.r13, P20.1.k13, ?_⟩)⟩⟩) (fun g => absurd g5 g)
      have A20 := A5.fr F20 (by decide) (by simp)
      rw [A20.1.1, crb, A20.1.2.2.2.2.1, P20.1.n13, nI_1]
      refine ⟨vp_in_nI rb2 (by decide), vp_in_nI rb2 (by decide), fun h26 e26 => ?_⟩
      have G26 : fr [89] [] h20 h26 := by rw [e26]; exact fr_pI (by simp)
      refine H h26 (.inr (i + 6)) (W5.tr ((mFr.of F20 (by decide) (by decide) (by decide)).tr (by rw [e26]; exact mFr_pI (x := 0) (Or.inl ⟨Or.inr (Or.inr (Or.inl rfl)), rfl⟩)))) ⟨P20.fr G26 (by simp) (by decide) (by simp) (by decide), (g5.fr F20 (by simp)).fr G26 (by simp)⟩ (fun e' z => by cases z) (fun j z => ?_)
      cases z
      refine ⟨_, eg, ?_⟩
      rw [e26]
      exact A20.bV P20.1 (by rw [F20.l (by simp), G5.l (by simp), x28, ev]) (by rw [F20.i (by simp), G5.i (by simp), y28]) (by rw [F20.i (by simp), z5]) rfl
  have fl := hx_flag (n := n) (bs := bs) (k := r.1.1.2.2.2) (m := r.1.1.2.2.1) (by omega) (j := i + 1)
  refine s12_voterHere P K O.1 ⟨_, rfl, fun q => go 0 ⟨fun _ => fl.mp q, fun _ => rfl⟩, fun q => go 1 ⟨fun z => absurd z (by decide +kernel), fun z => absurd (fl.mpr z) q⟩⟩
end

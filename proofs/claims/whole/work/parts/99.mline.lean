/-! ===== the reference reads a line ===== -/
section
variable {h h' : zH} {Q : Option Value → zH → Prop} {n i rb : Nat} {bs : Nat → Nat} {K : zKs} {e : Nat × Nat} {s : zFt ⊕ Nat}
/-- where the reader is: behind a fault, or well at a token -/
def mEi (h : zH) (n : Nat) (bs : Nat → Nat) : zFt ⊕ Nat → Prop
  | .inl e => mLo h n bs e
  | .inr i => mPs h n bs i ∧ mGd h
theorem mEi.l (S : mEi h n bs s) : mLay h := by
  cases s with
  | inl e => exact mLo.l S
  | inr i => exact S.1.1
theorem mEi.p (S : mEi h n bs s) : ∃ j, mPs h n bs j := by
  cases s with
  | inl e => exact S.1
  | inr i => exact ⟨i, S.1⟩
theorem mEi.fr {X : List Nat} {Y : List (Nat × Nat)} (S : mEi h n bs s) (F : fr X Y h h') (hX : 86 ∉ X) (hY : mRefs.all (fun f => !(Y.contains (84, f))) = true) (hY2 : [3, 4, 5, 6, 7, 8, 9, 10].all (fun f => !(Y.contains (84, f))) = true) : mEi h' n bs s := by
  cases s with
  | inl e => exact mLo.fr S F hX hY hY2
  | inr i =>
    simp only [List.all_cons, List.all_nil, and_true, Bool.and_eq_true] at hY2
    obtain ⟨y3, y4, y5, y6, y7, y8, y9, y10⟩ := hY2
    exact ⟨S.1.fr F hX hY (ni_of y3) (by simp only [List.all_cons, List.all_nil, and_true, Bool.and_eq_true]; exact ⟨y6, y7, y8, y9, y10⟩), S.2.fr F (ni_of y4) (ni_of y5)⟩
/-- the next, if all is well -/
def eiB {α β : Type} (s : zFt ⊕ α) (f : α → zFt ⊕ β) : zFt ⊕ β := match s with
  | .inl e => .inl e
  | .inr i => f i
theorem z12_isGood (S : mEi h n bs s) (H1 : ∀ i, s = .inr i → Q (some (.int 1)) h) (H0 : ∀ e, s = .inl e → Q (some (.int 0)) h) : zC mX12_isGood [.ref 84] h Q := by
  cases s with
  | inl e => exact s12_isGood (mLo.l S) (fun g => absurd g (mLo.ng S)) (fun _ => H0 e rfl)
  | inr i => exact s12_isGood S.1.1 (fun _ => H1 i rfl) (fun g => absurd S.2 g)
theorem lo_of (P : mPs h n bs i) (F : fr [] YE h h') (E : mFl h' e) : mLo h' n bs e := ⟨⟨i, P.fr F (by simp) (by decide) (by simp) (by decide)⟩, E⟩
/-- a token must stand there -/
theorem z12_must {b : Int32} {c : Prop} (S : mEi h n bs s) (hb : b = 0 ∨ b = 1) (hc : ∀ i, s = .inr i → (b = 1 ↔ c)) (H : ∀ h' s', fr [] YM h h' → mEi h' n bs s' → (∀ e, s = .inl e → s' = .inl e) → (∀ i, s = .inr i → (c → s' = .inr (i + 1)) ∧ (¬ c → s' = .inl (mp n bs i))) → Q none h') : zC mX12_must [.ref 84, .int b] h Q := by
  cases s with
  | inl e =>
    obtain ⟨⟨j, P⟩, E⟩ := id S
    exact s12_must P hb (fun g => absurd g (mLo.ng S)) (fun g => absurd g (mLo.ng S)) (fun _ => H h (.inl e) fr.rf S (fun _ z => z) (fun _ z => by cases z))
  | inr i =>
    refine s12_must S.1 hb (fun _ q h' F P' => H h' (.inr (i + 1)) (F.mo (by simp) (by simp)) ⟨P', S.2.fr F (by simp)⟩ (fun _ z => by cases z) (fun j z => ?_)) (fun _ q h' F E => H h' (.inl (mp n bs i)) (F.mo (by simp) (by simp)) (lo_of S.1 F E) (fun _ z => by cases z) (fun j z => ?_)) (fun g => absurd S.2 g)
    · cases z
      exact ⟨fun _ => rfl, fun nc => absurd ((hc i rfl).mp q) nc⟩
    · cases z
      exact ⟨fun y => absurd ((hc i rfl).mpr y) (by rw [q]; decide +kernel), fun _ => rfl⟩
theorem z12_isWord {k : Nat} {w : Int64} (S : mEi h n bs s) (hk : k < 20) (hw : w = lN (wdM k)) (H : ∀ x : Int32, (x = 0 ∨ x = 1) → (∀ i, s = .inr i → (x = 1 ↔ (tk n bs i).1 = k)) → Q (some (.int x)) h) : zC mX12_isWord [.ref 84, .long w] h Q := by
  obtain ⟨j, P⟩ := S.p
  cases s with
  | inl e => exact s12_isWord P hk hw (fun _ => H 1 (Or.inr rfl) (fun _ z => by cases z)) (fun _ => H 0 (Or.inl rfl) (fun _ z => by cases z))
  | inr i => exact s12_isWord S.1 hk hw (fun q => H 1 (Or.inr rfl) (fun _ z => by cases z; exact ⟨fun _ => q, fun _ => rfl⟩)) (fun q => H 0 (Or.inl rfl) (fun _ z => by cases z; exact ⟨fun y => absurd y (by decide +kernel), fun y => absurd y q⟩))
theorem z12_stands {g : Nat} {w : Int32} (S : mEi h n bs s) (hg : g < 8) (hw : w = nI (sgL.getD g 0)) (H : ∀ x : Int32, (x = 0 ∨ x = 1) → (∀ i, s = .inr i → (x = 1 ↔ (tk n bs i).1 = 22 + g)) → Q (some (.int x)) h) : zC mX12_stands [.ref 84, .int w] h Q := by
  obtain ⟨j, P⟩ := S.p
  cases s with
  | inl e => exact s12_stands P hg hw (fun _ => H 1 (Or.inr rfl) (fun _ z => by cases z)) (fun _ => H 0 (Or.inl rfl) (fun _ z => by cases z))
  | inr i => exact s12_stands S.1 hg hw (fun q => H 1 (Or.inr rfl) (fun _ z => by cases z; exact ⟨fun _ => q, fun _ => rfl⟩)) (fun q => H 0 (Or.inl rfl) (fun _ z => by cases z; exact ⟨fun y => absurd y (by decide +kernel), fun y => absurd y q⟩))
/-- a name told, wherever -/
theorem z12_told {k : Nat → Nat} {m : Nat} {x : Int32} (S : mEi h n bs s) (hm : m ≤ 2 ^ 31) (hx0 : ∀ i, s = .inr i → x = oI (hx (tk n bs i) k m)) (H : ∀ h' s' v, fr [] YM h h' → mEi h' n bs s' → (∀ e, s = .inl e → s' = .inl e) → (∀ i, s = .inr i → (∀ e, tkN (tk n bs i) k m (fun _ => false) = .inl e → s' = .inl e) ∧ (∀ y, tkN (tk n bs i) k m (fun _ => false) = .inr y → s' = .inr (i + 1) ∧ v = y)) → Q (some (.int (nI v))) h') : zC mX12_told [.ref 84, .int x] h Q := by
  cases s with
  | inl e => exact s12_told0 (mLo.l S) (show mLo h n bs e from S).2 (H h (.inl e) 0 fr.rf S (fun _ z => z) (fun _ z => by cases z))
  | inr i =>
    rw [hx0 i rfl]
    refine s12_told S.1 S.2 hm (fun h' v ev F P' g' => H h' (.inr (i + 1)) v F ⟨P', g'⟩ (fun _ z => by cases z) (fun j z => ?_)) (fun h' e v ev F L hv => H h' (.inl e) v F L (fun _ z => by cases z) (fun j z => ?_))
    · cases z
      exact ⟨fun e y => (by rw [ev] at y; cases y), fun y w => by rw [ev] at w; cases w; exact ⟨rfl, rfl⟩⟩
    · cases z
      exact ⟨fun e y => by rw [ev] at y; cases y; rfl, fun y w => by rw [ev] at w; cases w⟩
/-- a new name -/
theorem z12_fresh {k : Nat → Nat} {m : Nat} {x : Int32} (S : mEi h n bs s) (hx0 : ∀ i, s = .inr i → (x = 0 ↔ hx (tk n bs i) k m = none)) (H : ∀ h' s' (v : Int64), fr [] YM h h' → mEi h' n bs s' → (∀ e, s = .inl e → s' = .inl e) → (∀ i, s = .inr i → (∀ e, tkF (tk n bs i) k m = .inl e → s' = .inl e) ∧ (∀ y, tkF (tk n bs i) k m = .inr y → s' = .inr (i + 1) ∧ v = lN (cv y))) → Q (some (.long v)) h') : zC mX12_fresh [.ref 84, .int x] h Q := by
  have M := S.l
  cases s with
  | inl e => exact nX12_fresh _ _ _ _ (bX12_fresh_0 _ _ _ _ ⟨M.o, z12_isGood S (fun _ z => by cases z) (fun _ _ => ⟨_, rfl, br_t rfl (H h (.inl e) 0 fr.rf S (fun _ z => z) (fun _ z => by cases z))⟩)⟩)
  | inr i =>
    have P := S.1
    have b31 := (tk_k (n := n) (bs := bs) i).1
    have kk := mkk_lt (k := (tk n bs i).1) (by omega)
    -- a fault
    have flt : ∀ (h1 : zH) (e : zFt), fr [] YE h h1 → mFl h1 e → tkF (tk n bs i) k m = .inl e → zX mX12_fresh 37 [.ref 84, .float 0, .float 0, .float 0] [] h1 Q := fun h1 e F E et => by
      have L1 := lo_of P F E
      refine bX12_fresh_37 _ _ _ ⟨L1.l.o, s12_isGood L1.l (fun g => absurd g L1.ng) (fun _ => ⟨_, rfl, br_t rfl (H h1 (.inl e) _ (F.mo (by simp) (by simp)) L1 (fun _ z => by cases z) (fun j z => ?_))⟩)⟩
      cases z
      exact ⟨fun e y => by rw [et] at y; cases y; rfl, fun y w => by rw [et] at w; cases w⟩
    refine nX12_fresh _ _ _ _ (bX12_fresh_0 _ _ _ _ ⟨M.o, s12_isGood M (fun _ => ⟨_, rfl, br_f (by decide +kernel) ⟨M.o, ?_⟩⟩) (fun g => absurd S.2 g)⟩)
    rw [nI_lit 2, P.2.2.tk b31 2 (by decide), kk.2.2.1, hx0 i rfl]
    refine ⟨fun q => ⟨fun z => ?_, fun z => ?_⟩, fun q => s12_misplaced P S.2 (fun h1 F E => ⟨rfl, flt h1 _ F E ?_⟩)⟩
    · have ef : fx k (tk n bs i).2.2.1 m = none := by unfold hx at z; rw [if_pos q] at z; exact z
      have et : tkF (tk n bs i) k m = .inr (tk n bs i).2.2.1 := by unfold tkF; rw [if_pos q, ef]
      refine bX12_fresh_37 _ _ _ ⟨M.o, s12_isGood M (fun _ => ⟨_, rfl, br_f (by decide +kernel) ⟨M.o, s12_goOnT P (fun h1 F1 P1 => ⟨rfl, H h1 (.inr (i + 1)) _ (F1.mo (by simp) (by simp)) ⟨P1, S.2.fr F1 (by simp)⟩ (fun _ z => by cases z) (fun j z => ?_)⟩)⟩⟩) (fun g => absurd S.2 g)⟩
      cases z
      refine ⟨fun e y => (by rw [et] at y; cases y), fun y w => ?_⟩
      rw [et] at w
      cases w
      exact ⟨rfl, P.2.2.2.2.2.1 (by omega)⟩
    · have ef : ∃ v, fx k (tk n bs i).2.2.1 m = some v := by
        unfold hx at z
        rw [if_pos q] at z
        cases y : fx k (tk n bs i).2.2.1 m with
        | none => exact absurd y z
        | some v => exact ⟨v, rfl⟩
      obtain ⟨v, ef⟩ := ef
      rw [P.2.2.1]
      exact s12_fails (k := 3) M (by decide) S.2 (fun h1 F E => ⟨rfl, flt h1 _ F E (by unfold tkF; rw [if_pos q, ef])⟩)
    · unfold tkF; rw [if_neg q]
/-- the other bank, and the places of others, stay -/
abbrev XLn : List Nat := [87, 88, 89, 90, 91, 92, 93, 94, 95, 96, 97, 98, 99, 100, 101, 102, 103, 104, 105]
abbrev YLn : List (Nat × Nat) := [(84, 4), (84, 5), (84, 6), (84, 7), (84, 8), (84, 9), (84, 10), (84, 32), (84, 33), (84, 34), (84, 35), (84, 36), (84, 37)]
def mFr (rb : Nat) (h h' : zH) : Prop := fr XLn YLn h h' ∧ (∀ b, b ≠ rb → (aI h' 87 b = aI h 87 b ∧ aI h' 88 b = aI h 88 b ∧ aI h' 89 b = aI h 89 b ∧ aI h' 90 b = aI h 90 b) ∧ (∀ j, j < 3 → aL h' 91 (3 * b + j) = aL h 91 (3 * b + j)) ∧ (∀ j, j < 4 → aL h' 92 (4 * b + j) = aL h 92 (4 * b + j)) ∧ (∀ j, j < 8 → aL h' 93 (8 * b + j) = aL h 93 (8 * b + j)) ∧ (∀ j, j < 8 → aI h' 94 (8 * b + j) = aI h 94 (8 * b + j) ∧ aI h' 95 (8 * b + j) = aI h 95 (8 * b + j) ∧ aI h' 96 (8 * b + j) = aI h 96 (8 * b + j))) ∧ ∀ p, p / 8 ≠ rb → slE h h' p
theorem mFr.rf : mFr rb h h := ⟨fr.rf, fun _ _ => ⟨⟨rfl, rfl, rfl, rfl⟩, fun _ _ => rfl, fun _ _ => rfl, fun _ _ => rfl, fun _ _ => ⟨rfl, rfl, rfl⟩⟩, fun _ _ => slE.rf⟩
theorem mFr.tr {h1 h2 : zH} (a : mFr rb h h1) (b : mFr rb h1 h2) : mFr rb h h2 := by
  refine ⟨a.1.tr b.1, fun c hc => ?_, fun p hp => (a.2.2 p hp).tr (b.2.2 p hp)⟩
  obtain ⟨⟨a1, a2, a3, a4⟩, a5, a6, a7, a8⟩ := a.2.1 c hc
  obtain ⟨⟨b1, b2, b3, b4⟩, b5, b6, b7, b8⟩ := b.2.1 c hc
  exact ⟨⟨b1.trans a1, b2.trans a2, b3.trans a3, b4.trans a4⟩, fun j hj => (b5 j hj).trans (a5 j hj), fun j hj => (b6 j hj).trans (a6 j hj), fun j hj => (b7 j hj).trans (a7 j hj), fun j hj => ⟨(b8 j hj).1.trans (a8 j hj).1, (b8 j hj).2.1.trans (a8 j hj).2.1, (b8 j hj).2.2.trans (a8 j hj).2.2⟩⟩
theorem mFr.of {X : List Nat} {Y : List (Nat × Nat)} (F : fr X Y h h') (hX : X.all (fun k => XLn.contains k) = true) (hY : Y.all (fun k => YLn.contains k) = true) (hn : [87, 88, 89, 90, 91, 92, 93, 94, 95, 96, 97, 98, 99, 100, 101].all (fun k => !(X.contains k)) = true) : mFr rb h h' := by
  have hn' : ∀ k, k ∈ [87, 88, 89, 90, 91, 92, 93, 94, 95, 96, 97, 98, 99, 100, 101] → k ∉ X := fun k hk => ni_of (List.all_eq_true.mp hn k hk)
  refine ⟨F.mo (fun k hk => List.contains_iff_mem.mp (List.all_eq_true.mp hX k hk)) (fun q hq => List.contains_iff_mem.mp (List.all_eq_true.mp hY q hq)), fun b _ => ⟨⟨?_, ?_, ?_, ?_⟩, fun j _ => ?_, fun j _ => ?_, fun j _ => ?_, fun j _ => ⟨?_, ?_, ?_⟩⟩, fun p _ => slE.of F ?_⟩
  · rw [F.i (hn' 87 (by decide))]
  · rw [F.i (hn' 88 (by decide))]
  · rw [F.i (hn' 89 (by decide))]
  · rw [F.i (hn' 90 (by decide))]
  · rw [F.l (hn' 91 (by decide))]
  · rw [F.l (hn' 92 (by decide))]
  · rw [F.l (hn' 93 (by decide))]
  · rw [F.i (hn' 94 (by decide))]
  · rw [F.i (hn' 95 (by decide))]
  · rw [F.i (hn' 96 (by decide))]
  · simp only [List.all_cons, List.all_nil, and_true, Bool.and_eq_true]
    have f : ∀ k, k ∈ [87, 88, 89, 90, 91, 92, 93, 94, 95, 96, 97, 98, 99, 100, 101] → (!(X.contains k)) = true := List.all_eq_true.mp hn
    exact ⟨f 97 (by decide), f 98 (by decide), f 99 (by decide), f 100 (by decide), f 101 (by decide)⟩
theorem mFr.ofG {X : List Nat} {Y : List (Nat × Nat)} {v : Nat} (F : mFg X Y (8 * rb + v) h h') (hv : v < 8) (hX : X.all (fun k => [97, 98, 99, 100, 101, 102, 103, 104, 105].contains k) = true) (hY : Y.all (fun k => YLn.contains k) = true) : mFr rb h h' := by
  have hX' : ∀ k, k ∈ X → k ∈ [97, 98, 99, 100, 101, 102, 103, 104, 105] := fun k hk => List.contains_iff_mem.mp (List.all_eq_true.mp hX k hk)
  have nX : ∀ k, k ∉ [97, 98, 99, 100, 101, 102, 103, 104, 105] → k ∉ X := fun k hk z => hk (hX' k z)
  refine ⟨F.1.mo (fun k hk => ?_) (fun q hq => List.contains_iff_mem.mp (List.all_eq_true.mp hY q hq)), fun b _ => ⟨⟨?_, ?_, ?_, ?_⟩, fun j _ => ?_, fun j _ => ?_, fun j _ => ?_, fun j _ => ⟨?_, ?_, ?_⟩⟩, fun p hp => ⟨?_, ?_, fun j hj => ?_⟩⟩
  · have := hX' k hk
    simp only [List.mem_cons, List.not_mem_nil, or_false] at this ⊢
    omega
  · rw [F.1.i (nX 87 (by decide))]
  · rw [F.1.i (nX 88 (by decide))]
  · rw [F.1.i (nX 89 (by decide))]
  · rw [F.1.i (nX 90 (by decide))]
  · rw [F.1.l (nX 91 (by decide))]
  · rw [F.1.l (nX 92 (by decide))]
  · rw [F.1.l (nX 93 (by decide))]
  · rw [F.1.i (nX 94 (by decide))]
  · rw [F.1.i (nX 95 (by decide))]
  · rw [F.1.i (nX 96 (by decide))]
  · exact (F.2.1 p (by omega)).1
  · exact (F.2.1 p (by omega)).2
  · exact F.2.2 _ (by omega)
/-- a place of the own bank is written -/
theorem mFr_pI {a j x : Nat} {v : Int32} (ha : (a = 87 ∨ a = 88 ∨ a = 89 ∨ a = 90) ∧ j = rb ∨ (a = 94 ∨ a = 95 ∨ a = 96) ∧ j = 8 * rb + x ∧ x < 8) : mFr rb h (pI h a j v) := by
  have hj : ∀ c k, (c ≠ a ∨ k ≠ j) → aI (pI h a j v) c k = aI h c k := fun c k hc => aI_pI_n hc
  refine ⟨fr_pI (by simp only [List.mem_cons, List.not_mem_nil, or_false]; omega), fun b hb => ⟨⟨hj _ _ (by omega), hj _ _ (by omega), hj _ _ (by omega), hj _ _ (by omega)⟩, fun k _ => aL_pI, fun k _ => aL_pI, fun k _ => aL_pI, fun k hk => ⟨hj _ _ (by omega), hj _ _ (by omega), hj _ _ (by omega)⟩⟩, fun p hp => ⟨hj _ _ (by omega), hj _ _ (by omega), fun k hk => ⟨hj _ _ (by omega), hj _ _ (by omega), hj _ _ (by omega)⟩⟩⟩
theorem mFr_pL {a j x : Nat} {v : Int64} (ha : (a = 91 ∧ j = 3 * rb + x ∧ x < 3) ∨ (a = 92 ∧ j = 4 * rb + x ∧ x < 4) ∨ (a = 93 ∧ j = 8 * rb + x ∧ x < 8)) : mFr rb h (pL h a j v) := by
  have hj : ∀ c k, (c ≠ a ∨ k ≠ j) → aL (pL h a j v) c k = aL h c k := fun c k hc => aL_pL_n hc
  exact ⟨fr_pL (by simp only [List.mem_cons, List.not_mem_nil, or_false]; omega), fun b hb => ⟨⟨aI_pL, aI_pL, aI_pL, aI_pL⟩, fun k hk => hj _ _ (by omega), fun k hk => hj _ _ (by omega), fun k hk => hj _ _ (by omega), fun k hk => ⟨aI_pL, aI_pL, aI_pL⟩⟩, fun p hp => ⟨aI_pL, aI_pL, fun k hk => ⟨aI_pL, aI_pL, aI_pL⟩⟩⟩
end

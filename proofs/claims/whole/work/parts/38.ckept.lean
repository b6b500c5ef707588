/-! ===== the class: sets that can be kept ===== -/
section
variable {h h' : zH} {t N V : Nat} {st wt mk : Nat → Nat} {Q : Option Value → zH → Prop} {X : List Nat} {Y : List (Nat × Nat)}
theorem nb_lt {y v n : Nat} (hy : y < 2 ^ n) : y ^^^ (y &&& 2 ^ v) < 2 ^ n := Nat.xor_lt_two_pow hy (Nat.lt_of_le_of_lt Nat.and_le_left hy)
theorem nb_tb (y v w : Nat) : (y ^^^ (y &&& 2 ^ v)).testBit w = (y.testBit w && decide (v ≠ w)) := by
  rw [Nat.testBit_xor, Nat.testBit_and, Nat.testBit_two_pow]
  by_cases z : v = w <;> simp [z]
theorem nb_le (y v : Nat) : y ^^^ (y &&& 2 ^ v) ≤ y := by
  apply Nat.le_of_testBit
  intro i hi
  rw [nb_tb] at hi
  simp at hi
  exact hi.1
/-- closed downwards: sets below a kept one -/
def dnC (k0 : Nat → Prop) (s : Nat) : Prop := ∃ s0, s0 < 256 ∧ k0 s0 ∧ ∀ w, s.testBit w = true → s0.testBit w = true
theorem dn_all {k0 k : Nat → Prop} (h0 : ∀ s, s < 256 → k0 s → k s) (h1 : ∀ s, s < 256 → k s → ∀ v, v < 8 → k (s ^^^ (s &&& 2 ^ v))) : ∀ (s : Nat), dnC k0 s → k s := by
  have key : ∀ (m s0 s : Nat), s0 ≤ m → s0 < 256 → k s0 → (∀ w, s.testBit w = true → s0.testBit w = true) → k s := by
    intro m
    induction m with
    | zero =>
      intro s0 s hm h256 hk hsub
      have : s0 = 0 := by omega
      subst this
      have : s = 0 := by
        apply Nat.eq_of_testBit_eq
        intro i
        rw [Nat.zero_testBit]
        cases hb : s.testBit i
        · rfl
        · have := hsub i hb
          rw [Nat.zero_testBit] at this
          exact this.symm
      rw [this]; exact hk
    | succ m ih =>
      intro s0 s hm h256 hk hsub
      by_cases hz : ∃ v, s0.testBit v = true ∧ s.testBit v = false
      · obtain ⟨v, v1, v2⟩ := hz
        have v8 : v < 8 := by
          rcases Nat.lt_or_ge v 8 with z | z
          · exact z
          · have : s0.testBit v = false := Nat.testBit_lt_two_pow (Nat.lt_of_lt_of_le h256 (Nat.le_trans (by decide : 256 ≤ 2 ^ 8) (Nat.pow_le_pow_right (by decide) z)))
            rw [this] at v1; cases v1
        have hk2 := h1 s0 h256 hk v v8
        have hle := nb_le s0 v
        have hne : s0 ^^^ (s0 &&& 2 ^ v) ≠ s0 := fun e => by
          have := nb_tb s0 v v
          rw [e, v1] at this
          simp at this
        refine ih _ s (by omega) (by omega) hk2 (fun w hw => ?_)
        rw [nb_tb, hsub w hw]
        have : v ≠ w := fun e => by rw [← e, v2] at hw; cases hw
        simp [this]
      · have : s = s0 := by
          apply Nat.eq_of_testBit_eq
          intro i
          cases h1 : s.testBit i
          · cases h2 : s0.testBit i
            · rfl
            · exact absurd ⟨i, h2, h1⟩ hz
          · rw [hsub i h1]
        rw [this]; exact hk
  rintro s ⟨s0, a, b, c⟩
  exact key s0 s0 s (Nat.le_refl _) a (h0 s0 a b) c
theorem dn_nb {k0 : Nat → Prop} {s : Nat} (v : Nat) (h : dnC k0 s) : dnC k0 (s ^^^ (s &&& 2 ^ v)) := by
  obtain ⟨s0, a, b, c⟩ := h
  refine ⟨s0, a, b, fun w hw => c w ?_⟩
  rw [nb_tb] at hw
  simp at hw
  exact hw.1
theorem dn_0 {k0 : Nat → Prop} {s : Nat} (hs : s < 256) (h : k0 s) : dnC k0 s := ⟨s, hs, h, fun _ z => z⟩
theorem s5_closeDownwards {k0 : Nat → Prop} (o12 : oK h 12 5) (r1 : gR h 12 1 = some 15) (k15 : iK h 15 0) (n15 : aN h 15 = 256) (K : ∀ s, s < 256 → (aI h 15 s = 1 ∧ k0 s) ∨ (aI h 15 s = 0 ∧ ¬ k0 s))
    (H : ∀ h', fr [15] [] h h' → (∀ s, s < 256 → (aI h' 15 s = 1 ∧ dnC k0 s) ∨ (aI h' 15 s = 0 ∧ ¬ dnC k0 s)) → Q none h') : zC mX5_closeDownwards [.ref 12] h Q := by
  -- what holds of the row when all from j on are through
  have fin : ∀ h0, fr [15] [] h h0 → (∀ s, s < 256 → aI h0 15 s = 1 ∨ aI h0 15 s = 0) → (∀ s, s < 256 → aI h0 15 s = 1 → dnC k0 s) → (∀ s, s < 256 → k0 s → aI h0 15 s = 1) → (∀ s, s < 256 → aI h0 15 s = 1 → ∀ v, v < 8 → aI h0 15 (s ^^^ (s &&& 2 ^ v)) = 1) → Q none h0 := fun h0 F a b c d => by
    refine H h0 F (fun s hs => ?_)
    have := dn_all (k0 := k0) (k := fun s => aI h0 15 s = 1) c d s
    rcases a s hs with z | z
    · exact Or.inl ⟨z, b s hs z⟩
    · refine Or.inr ⟨z, fun y => ?_⟩
      have y2 := this y
      rw [z] at y2
      exact absurd y2 (by decide)
  have inner : ∀ (j : Nat), j < 256 → (∀ h0, fr [15] [] h h0 → (∀ s, s < 256 → aI h0 15 s = 1 ∨ aI h0 15 s = 0) → (∀ s, s < 256 → aI h0 15 s = 1 → dnC k0 s) → (∀ s, s < 256 → k0 s → aI h0 15 s = 1) → (∀ s, j ≤ s → s < 256 → aI h0 15 s = 1 → ∀ v, v < 8 → aI h0 15 (s ^^^ (s &&& 2 ^ v)) = 1) → zX mX5_closeDownwards 8 [.ref 12, .int (nI j + (-1)), .float 0] [] h0 Q) →
      ∀ (d w : Nat) (h0 : zH), w + d = 8 → fr [15] [] h h0 → (∀ s, s < 256 → aI h0 15 s = 1 ∨ aI h0 15 s = 0) → (∀ s, s < 256 → aI h0 15 s = 1 → dnC k0 s) → (∀ s, s < 256 → k0 s → aI h0 15 s = 1) → (∀ s, j + 1 ≤ s → s < 256 → aI h0 15 s = 1 → ∀ v, v < 8 → aI h0 15 (s ^^^ (s &&& 2 ^ v)) = 1) → (aI h0 15 j = 1 → ∀ v, v < w → aI h0 15 (j ^^^ (j &&& 2 ^ v)) = 1) → zX mX5_closeDownwards 14 [.ref 12, .int (nI j), .int (nI w)] [] h0 Q := by
    intro j hj go d
    induction d with
    | zero =>
      intro w h0 hw F a b c e g
      have : w = 8 := by omega
      subst this
      refine bX5_closeDownwards_14 _ _ _ _ _ (br_t (by decide +kernel) (go h0 F a b c (fun s hs hs2 hk v hv => ?_)))
      by_cases z : s = j
      · subst z; exact g hk v hv
      · exact e s (by omega) hs2 hk v hv
    | succ d ih =>
      intro w h0 hw F a b c e g
      refine bX5_closeDownwards_14 _ _ _ _ _ (br_f (nI_ge (b := 8) (by omega) (by decide)) ⟨F.o o12, _, by rw [F.gr (by simp)]; exact r1, F.ik k15, by rw [F.n, n15]; exact vp_in_nI hj (by decide), ?_⟩)
      rw [nI_clamp (by omega)]
      refine ⟨fun q => ?_, fun q => ?_⟩
      · rw [nI_1shl (by omega), nI_andn]
        have hlt : j ^^^ (j &&& 2 ^ w) < 256 := nb_lt (n := 8) hj
        refine s11_putN (F.ik k15) (by rw [F.n]; exact n15) hlt (by decide) (fun h1 e1 => ⟨rfl, ?_⟩)
        have F1 : fr [15] [] h0 h1 := by rw [e1]; exact fr_pI (by simp)
        have val : ∀ s, aI h1 15 s = if s = j ^^^ (j &&& 2 ^ w) then 1 else aI h0 15 s := fun s => by
          rw [e1, aI_pI ⟨_, F.ik k15⟩]
          by_cases z : s = j ^^^ (j &&& 2 ^ w)
          · rw [if_pos z, if_pos ⟨rfl, z⟩]
          · rw [if_neg z, if_neg (fun y => z y.2)]
        have up : ∀ s, aI h0 15 s = 1 → aI h1 15 s = 1 := fun s z => by
          rw [val]; split
          · rfl
          · exact z
        rw [nI_1]
        refine ih (w + 1) h1 (by omega) (F.tr F1) (fun s hs => ?_) (fun s hs hk => ?_) (fun s hs hk => up s (c s hs hk)) (fun s hs hs2 hk v hv => ?_) (fun hk v hv => ?_)
        · rw [val]; split
          · exact Or.inl rfl
          · exact a s hs
        · rw [val] at hk
          split at hk
          · next z => rw [z]; exact dn_nb w (b j hj q)
          · exact b s hs hk
        · have hne : s ≠ j ^^^ (j &&& 2 ^ w) := fun z => by have := nb_le j w; omega
          rw [val, if_neg hne] at hk
          exact up _ (e s hs hs2 hk v hv)
        · by_cases z : v = w
          · subst z; rw [val, if_pos rfl]
          · exact up _ (g q v (by omega))
      · refine go h0 F a b c (fun s hs hs2 hk v hv => ?_)
        by_cases z : s = j
        · subst z; exact absurd hk q
        · exact e s (by omega) hs2 hk v hv
  have main : ∀ (j : Nat), j ≤ 256 → ∀ h0, fr [15] [] h h0 → (∀ s, s < 256 → aI h0 15 s = 1 ∨ aI h0 15 s = 0) → (∀ s, s < 256 → aI h0 15 s = 1 → dnC k0 s) → (∀ s, s < 256 → k0 s → aI h0 15 s = 1) → (∀ s, j ≤ s → s < 256 → aI h0 15 s = 1 → ∀ v, v < 8 → aI h0 15 (s ^^^ (s &&& 2 ^ v)) = 1) → zX mX5_closeDownwards 8 [.ref 12, .int (nI j + (-1)), .float 0] [] h0 Q := by
    intro j
    induction j with
    | zero =>
      intro hj h0 F a b c e
      exact bX5_closeDownwards_8 _ _ _ _ (br_t nI_d0 (fin h0 F a b c (fun s hs => e s (Nat.zero_le _) hs)))
    | succ j ih =>
      intro hj h0 F a b c e
      rw [nI_dn]
      exact bX5_closeDownwards_8 _ _ _ _ (br_f (nI_pos (by omega)) (inner j (by omega) (ih (by omega)) 8 0 h0 rfl F a b c e (fun _ v hv => absurd hv (Nat.not_lt_zero _))))
  refine nX5_closeDownwards _ _ _ (bX5_closeDownwards_0 _ _ _ ⟨o12, _, r1, k15, ?_⟩)
  rw [n15, nI_s1]
  refine main 256 (Nat.le_refl _) h fr.rf (fun s hs => ?_) (fun s hs hk => ?_) (fun s hs hk => ?_) (fun s hs hs2 => by omega)
  · rcases K s hs with z | z
    · exact Or.inl z.1
    · exact Or.inr z.1
  · rcases K s hs with z | z
    · exact dn_0 hs z.2
    · rw [z.1] at hk; exact absurd hk (by decide)
  · rcases K s hs with z | z
    · exact z.1
    · exact absurd hk z.2
/-- an answer that may be none -/
def oI : Option Nat → Int32
  | none => -1
  | some x => nI x
/-- the least set of those that p tells, the fewest first -/
def tlS (p : Nat → Bool) : Nat → Nat → Option Nat → Option Nat
  | 0, _, best => best
  | d + 1, s, best => tlS p d (s + 1) (if (match best with | none => true | some x => decide (pcF s < pcF x)) && p s then some s else best)
/-- can the set be kept by a row -/
def ckP (N V : Nat) (f : (Nat → Nat) → Nat → Nat) (s : Nat) : Prop := ∃ r, r < 4 ^ V ∧ cbB N V r = true ∧ ∀ v, v < V → s.testBit v = true → f (dg 4 V r) v = dg 4 V r v
theorem en2_bit {V : Nat} {g : Nat → Nat} (hg : ∀ v, v < V → g v < 2) : ∀ w, (en 2 V g).testBit w = (decide (w < V) && decide (g (V - 1 - w) = 1)) := by
  induction V with
  | zero => intro w; simp [en]
  | succ k ih =>
    intro w
    have hk := hg k (Nat.lt_succ_self k)
    have ih := ih (fun v hv => hg v (by omega))
    cases w with
    | zero =>
      rw [Bool.eq_iff_iff, ← tb, Bool.and_eq_true, decide_eq_true_eq, decide_eq_true_eq]
      have : (en 2 (k + 1) g) / 2 ^ 0 % 2 = g k := by rw [en]; omega
      rw [this]
      simp
    | succ w =>
      rw [Nat.testBit_succ, en, show (en 2 k g * 2 + g k) / 2 = en 2 k g by omega, ih w, show k + 1 - 1 - (w + 1) = k - 1 - w by omega]
      simp
end

/-! ===== the reference: who looks at whom ===== -/
section
variable {h h' : zH} {b N ns V xv : Nat} {st wt mk mm : Nat → Nat} {Q : Option Value → zH → Prop} {X : List Nat} {Y : List (Nat × Nat)} {cn : Nat → Nat} {cd : Nat → Nat → Nat × Nat × Nat}
/-- bits by a predicate -/
def bN (p : Nat → Bool) : Nat → Nat
  | 0 => 0
  | k + 1 => bN p k ||| (if p k then 2 ^ k else 0)
theorem bN_bit {p : Nat → Bool} : ∀ {k w : Nat}, (bN p k).testBit w = (decide (w < k) && p w)
  | 0, w => by simp [bN]
  | k + 1, w => by
    rw [bN, Nat.testBit_or, bN_bit]
    by_cases e : w = k
    · subst e
      by_cases z : p w = true
      · simp [z]
      · simp [z]
    · have : (if p k = true then 2 ^ k else 0).testBit w = false := by
        split
        · rw [Nat.testBit_two_pow]; simp; omega
        · exact Nat.zero_testBit _
      rw [this, Bool.or_false]
      have : decide (w < k + 1) = decide (w < k) := by simp; omega
      rw [this]
theorem bN_lt {p : Nat → Bool} : ∀ {k : Nat}, bN p k < 2 ^ k
  | 0 => by simp [bN]
  | k + 1 => by
    rw [bN]
    refine Nat.or_lt_two_pow (Nat.lt_of_lt_of_le bN_lt (Nat.pow_le_pow_right (by decide) (by omega))) ?_
    split
    · exact Nat.pow_lt_pow_right (by decide) (by omega)
    · exact Nat.two_pow_pos _
theorem bN_of {p : Nat → Bool} {L : Nat} (hL : L < 256) (h : ∀ w, L.testBit w = p w) : L = bN p 8 := by
  apply Nat.eq_of_testBit_eq
  intro w
  rw [bN_bit]
  rcases Nat.lt_or_ge w 8 with z | z
  · rw [h]; simp [z]
  · have : L.testBit w = false := Nat.testBit_lt_two_pow (Nat.lt_of_lt_of_le hL (Nat.le_trans (by decide : 256 ≤ 2 ^ 8) (Nat.pow_le_pow_right (by decide) z)))
    rw [this]
    have : decide (w < 8) = false := by simp; omega
    rw [this]; rfl
theorem akV_s {n w : Nat} {c : Nat → Nat × Nat × Nat} : akV (n + 1) c w = (akV n c w || (((c n).1 == 2 || (c n).1 == 13) && (c n).2.2 == w)) := by
  simp [akV, List.range_succ]
theorem akS_s {n s : Nat} {c : Nat → Nat × Nat × Nat} : akS (n + 1) c s = (akS n c s || (((c n).1 == 1 || (c n).1 == 14 || (c n).1 == 15) && (c n).2.1 == s)) := by
  simp [akS, List.range_succ]
/-- those of a street, or all, but one -/
def oth (V : Nat) (st : Nat → Nat) (own s w : Nat) : Bool := decide (w < V) && (decide (w ≠ own) && (decide (s = 0) || decide (s = st w + 1)))
theorem s12_othersOf {own s : Nat} (M : mT h b N ns V st wt) (ho : own < V) (hs : s ≤ 4) (H : ∀ L, L < 256 → (∀ w, L.testBit w = oth V st own s w) → Q (some (.int (nI L))) h) : zC mX12_othersOf [.ref 84, .int (nI own), .int (nI s + (-1))] h Q := by
  have hV := M.V8
  have hb := M.b2
  have L : ∀ (d j a : Nat), j + d = V → a < 256 → (∀ w, a.testBit w = (decide (w < j) && oth V st own s w)) → zX mX12_othersOf 5 [.ref 84, .int (nI own), .int (nI s + (-1)), .int (nI a), .int (nI j)] [] h Q := by
    intro d
    induction d with
    | zero =>
      intro j a hj ha e
      have : j = V := by omega
      subst this
      refine bX12_othersOf_5 _ _ _ _ _ _ _ ⟨M.l.o, s12_voterMany M ⟨_, rfl, br_t (nI_le (Nat.le_refl _) (by omega)) (H a ha (fun w => ?_))⟩⟩
      rw [e w, oth, ← Bool.and_assoc, Bool.and_self]
    | succ d ih =>
      intro j a hj ha e
      have h2 : (2 : Nat) ^ j < 256 := Nat.lt_of_lt_of_le (Nat.pow_lt_pow_right (by decide) (show j < 8 by omega)) (by decide)
      have no : oth V st own s j = false → zX mX12_othersOf 5 [.ref 84, .int (nI own), .int (nI s + (-1)), .int (nI a), .int (nI j + 1)] [] h Q := fun z => by
        rw [nI_1]
        refine ih (j + 1) a (by omega) ha (fun w => ?_)
        rw [e w]
        by_cases y : w = j
        · subst y; simp [z]
        · have : decide (w < j + 1) = decide (w < j) := by simp; omega
          rw [this]
      have yes : oth V st own s j = true → zX mX12_othersOf 5 [.ref 84, .int (nI own), .int (nI s + (-1)), .int (nI a ||| (1 : Int32) <<< (nI j &&& 31)), .int (nI j + 1)] [] h Q := fun z => by
        rw [nI_1, nI_1shl (by omega), nI_or]
        refine ih (j + 1) _ (by omega) (Nat.or_lt_two_pow (n := 8) ha h2) (fun w => ?_)
        rw [tb_or2, e w]
        by_cases y : w = j
        · subst y; simp [z]
        · have h3 : decide (w < j + 1) = decide (w < j) := by simp; omega
          have h4 : decide (j = w) = false := by simp; omega
          rw [h3, h4, Bool.or_false]
      refine bX12_othersOf_5 _ _ _ _ _ _ _ ⟨M.l.o, s12_voterMany M ⟨_, rfl, br_f (nI_ge (by omega) (by omega)) ?_⟩⟩
      rw [nI_eq (by omega) (by omega), nI_dlt (by omega)]
      refine ⟨fun q => no (by simp [oth, q]), fun q => ⟨fun q2 => yes (by simp [oth, q, q2]; omega), fun q2 => ⟨M.l.o, _, M.l.r18, M.l.k18, ?_⟩⟩⟩
      obtain ⟨v1, v2, v3, v4⟩ := M.v j (by omega)
      have hs4 := M.ns4
      rw [M.b26, ix8, nI_clamp (by omega), v1]
      obtain ⟨s', rfl⟩ : ∃ s', s = s' + 1 := ⟨s - 1, by omega⟩
      rw [nI_dn, nI_eq (by omega) (by omega)]
      refine ⟨by rw [M.l.n18]; exact vp_in_nI (by omega) (by decide), fun q3 => ?_, fun q3 => ?_⟩
      · have := yes (by simp [oth, q, q3]; omega)
        rw [nI_dn] at this; exact this
      · have := no (by simp [oth]; intros; omega)
        rw [nI_dn] at this; exact this
  exact nX12_othersOf _ _ _ _ _ (bX12_othersOf_0 _ _ _ _ _ (L V 0 0 (by omega) (by decide) (fun w => by simp)))
/-- the set of those who are looked at -/
def lkN (V : Nat) (st : Nat → Nat) (own n : Nat) (c : Nat → Nat × Nat × Nat) : Nat := bN (lkB V st own n c) 8
theorem lkB_s {n w own : Nat} {c : Nat → Nat × Nat × Nat} : lkB V st own (n + 1) c w = (lkB V st own n c w || ((((c n).1 == 2 || (c n).1 == 13) && (decide (w ≠ own) && (c n).2.2 == w)) || (((c n).1 == 1 || (c n).1 == 14 || (c n).1 == 15) && oth V st own (c n).2.1 w))) := by
  have hb : ∀ a b : Nat, (a == b) = decide (a = b) := fun _ _ => rfl
  simp only [lkB, akV_s, akS_s, oth, hb]
  cases akV n c w <;> cases akS n c 0 <;> cases akS n c (st w + 1) <;> cases (decide ((c n).1 = 2) || decide ((c n).1 = 13)) <;> cases (decide ((c n).1 = 1) || decide ((c n).1 = 14) || decide ((c n).1 = 15)) <;> by_cases z : w = own <;> by_cases z2 : w < V <;> simp [z, z2]
theorem s12_looksOf {own n : Nat} {c : Nat → Nat × Nat × Nat} (M : mT h b N ns V st wt) (ho : own < V) (C : mC h (8 * b + own) n c) (O : okC V N own n c) (H : Q (some (.int (nI (lkN V st own n c)))) h) : zC mX12_looksOf [.ref 84, .int (nI own)] h Q := by
  have hV := M.V8
  have hb := M.b2
  obtain ⟨-, Hh, -, O⟩ := O
  have L : ∀ (d i a : Nat), i + d = n → a < 256 → (∀ w, a.testBit w = lkB V st own i c w) → zX mX12_looksOf 15 [.ref 84, .int (nI own), .int (nI (8 * b + own)), .int (nI a), .int (nI i), .float 0, .float 0] [] h Q := by
    intro d
    have hn := C.2.1
    induction d with
    | zero =>
      intro i a hi ha e
      have : i = n := by omega
      subst this
      refine bX12_looksOf_15 _ _ _ _ _ _ _ ⟨M.l.o, _, M.l.r21, M.l.k21, by rw [M.l.n21]; exact vp_in_nI (by omega) (by decide), br_t ?_ ?_⟩
      · rw [nI_clamp (by omega), C.1]; exact nI_le (by omega) (by omega)
      · rw [bN_of ha e]; exact H
    | succ d ih =>
      intro i a hi ha e
      have ok := (O i (by omega)).2
      have op := C.2.2 i (by omega)
      have pl : 640 * (8 * b + own) + i < 30720 := by omega
      have cl : (nI (640 * (8 * b + own) + i)).toNatClampNeg = 640 * (8 * b + own) + i := nI_clamp (by omega)
      have e640 : (640 : Int32) * nI (8 * b + own) + nI i = nI (640 * (8 * b + own) + i) := ix640 _ _
      have vi : ∀ a, aN h a = 30720 → vp_in (nI (640 * (8 * b + own) + i)) (aN h a) := fun a e => by rw [e]; exact vp_in_nI pl (by decide)
      have next : ∀ a', a' < 256 → (∀ w, a'.testBit w = lkB V st own (i + 1) c w) → zX mX12_looksOf 15 [.ref 84, .int (nI own), .int (nI (8 * b + own)), .int (nI a'), .int (nI i + 1), .float 0, .float 0] [] h Q := fun a' h1 h2 => by
        rw [nI_1]; exact ih (i + 1) a' (by omega) h1 h2
      generalize hp : 640 * (8 * b + own) + i = p at *
      refine bX12_looksOf_15 _ _ _ _ _ _ _ ⟨M.l.o, _, M.l.r21, M.l.k21, by rw [M.l.n21]; exact vp_in_nI (by omega) (by decide), br_f ?_ ⟨_, M.l.r23, M.l.k23, by rw [e640]; exact vi _ M.l.n23, ?_⟩⟩
      · rw [nI_clamp (by omega), C.1]; exact nI_ge (by omega) (by omega)
      rw [e640, cl]
      have at96 : ∀ s : Nat, s ≤ 4 → aI h 101 p = nI s + (-1) → (∀ w, lkB V st own (i + 1) c w = (lkB V st own i c w || oth V st own s w)) → zX mX12_looksOf 96 [.ref 84, .int (nI own), .int (nI (8 * b + own)), .int (nI a), .int (nI i), .int (nI p), .float 0] [] h Q := fun s hs e1 e2 => by
        refine bX12_looksOf_96 _ _ _ _ _ _ _ _ ⟨M.l.o, _, M.l.r25, M.l.k25, vi _ M.l.n25, ?_⟩
        rw [cl, e1]
        refine s12_othersOf M ho hs (fun L hL tL => ⟨_, rfl, ?_⟩)
        rw [nI_or]
        exact next _ (Nat.or_lt_two_pow (n := 8) ha hL) (fun w => by rw [Nat.testBit_or, tL, e w, e2 w])
      have skip : ∀ x : Int32, (x ≠ 2 ∧ x ≠ 3 ∧ x ≠ 9 ∧ x ≠ 10) → (∀ w, lkB V st own (i + 1) c w = lkB V st own i c w) → zX mX12_looksOf 70 [.ref 84, .int (nI own), .int (nI (8 * b + own)), .int (nI a), .int (nI i), .int (nI p), .int x] [] h Q := fun x hx e2 =>
        bX12_looksOf_70 _ _ _ _ _ _ _ _ _ (br_f hx.1 (br_f hx.2.1 (br_f hx.2.2.1 (br_f hx.2.2.2 (next a ha (fun w => by rw [e w, e2 w]))))))
      have one : ∀ (x : Int32) (v : Nat), (x = 4 ∨ x = 8) → aI h 100 p = nI v → v < V → v ≠ own → (∀ w, lkB V st own (i + 1) c w = (lkB V st own i c w || decide (v = w))) → zX mX12_looksOf 58 [.ref 84, .int (nI own), .int (nI (8 * b + own)), .int (nI a), .int (nI i), .int (nI p), .int x] [] h Q := fun x v hx e1 hv hn e2 => by
        refine bX12_looksOf_58 _ _ _ _ _ _ _ _ _ ⟨M.l.o, _, M.l.r24, M.l.k24, vi _ M.l.n24, ?_⟩
        rw [cl, e1, nI_1shl (by omega), nI_or]
        have h2 : (2 : Nat) ^ v < 256 := Nat.lt_of_lt_of_le (Nat.pow_lt_pow_right (by decide) (show v < 8 by omega)) (by decide)
        have hx' : x ≠ 2 ∧ x ≠ 3 ∧ x ≠ 9 ∧ x ≠ 10 := by rcases hx with rfl | rfl <;> decide
        exact bX12_looksOf_70 _ _ _ _ _ _ _ _ _ (br_f hx'.1 (br_f hx'.2.1 (br_f hx'.2.2.1 (br_f hx'.2.2.2 (next _ (Nat.or_lt_two_pow (n := 8) ha h2) (fun w => by rw [tb_or2, e w, e2 w]))))))
      have sm1 : ∀ x : Int32, aI h 99 p = x → (x ≠ 4 ∧ x ≠ 8) → (x ≠ 2 ∧ x ≠ 3 ∧ x ≠ 9 ∧ x ≠ 10) → (∀ w, lkB V st own (i + 1) c w = lkB V st own i c w) → (aI h 99 p = 4 → zX mX12_looksOf 58 [.ref 84, .int (nI own), .int (nI (8 * b + own)), .int (nI a), .int (nI i), .int (nI p), .int (aI h 99 p)] [] h Q) ∧ (¬ aI h 99 p = 4 → (aI h 99 p = 8 → zX mX12_looksOf 58 [.ref 84, .int (nI own), .int (nI (8 * b + own)), .int (nI a), .int (nI i), .int (nI p), .int (aI h 99 p)] [] h Q) ∧ (¬ aI h 99 p = 8 → zX mX12_looksOf 70 [.ref 84, .int (nI own), .int (nI (8 * b + own)), .int (nI a), .int (nI i), .int (nI p), .int (aI h 99 p)] [] h Q)) := fun x hx z1 z2 e2 => by
        rw [hx]
        exact br_f z1.1 (br_f z1.2 (skip x z2 e2))
      unfold okO at ok
      rcases ok with ⟨k, g⟩ | ⟨k, g1, g2, g3⟩ | ⟨k, g1, g2, g3, g4, g5⟩ | ⟨k, g⟩ | ⟨k, g⟩ | ⟨k, g⟩ | ⟨k, g1, g2, g3, g4, g5⟩ | ⟨k, g1, g2, g3, g4⟩ | ⟨k, g⟩
      · simp [opM, k] at op
        exact sm1 _ op.1 (by decide) (by decide) (fun w => by rw [lkB_s, k]; simp)
      · have e2 : ∀ w, lkB V st own (i + 1) c w = (lkB V st own i c w || oth V st own (c i).2.1 w) := fun w => by rw [lkB_s, k]; simp
        simp [opM, k] at op
        rcases op with ⟨o1, o2, o3, o4⟩ | ⟨o1, o2, o3⟩
        · rw [o2]
          exact br_f (by decide) (br_f (by decide) (bX12_looksOf_70 _ _ _ _ _ _ _ _ _ (br_t rfl (at96 _ g2 o1 e2))))
        · rw [o2]
          exact br_f (by decide) (br_f (by decide) (bX12_looksOf_70 _ _ _ _ _ _ _ _ _ (br_f (by decide) (br_t rfl (at96 _ g2 o1 e2)))))
      · simp [opM, k] at op
        rw [op.1]
        refine br_t rfl (one _ _ (Or.inl rfl) op.2.1 g4 g5 (fun w => ?_))
        rw [lkB_s, k]
        by_cases z : (c i).2.2 = w
        · have : w ≠ own := by omega
          simp [z, this]
        · simp [z]
      · simp [opM, k] at op
        exact sm1 _ op.1 (by decide) (by decide) (fun w => by rw [lkB_s, k]; simp)
      · simp [opM, k] at op
        exact sm1 _ op (by decide) (by decide) (fun w => by rw [lkB_s, k]; simp)
      · simp [opM, k] at op
        rcases op with ⟨o1, _⟩ | ⟨o1, _⟩
        · exact sm1 _ o1 (by decide) (by decide) (fun w => by rw [lkB_s, k]; simp)
        · exact sm1 _ o1 (by decide) (by decide) (fun w => by rw [lkB_s, k]; simp)
      · simp [opM, k] at op
        rw [op.1]
        refine br_f (by decide) (br_t rfl (one _ _ (Or.inr rfl) op.2 g4 g5 (fun w => ?_)))
        rw [lkB_s, k]
        by_cases z : (c i).2.2 = w
        · have : w ≠ own := by omega
          simp [z, this]
        · simp [z]
      · rcases k with k | k
        · have e2 : ∀ w, lkB V st own (i + 1) c w = (lkB V st own i c w || oth V st own (c i).2.1 w) := fun w => by rw [lkB_s, k]; simp
          simp [opM, k] at op
          rw [op.1]
          exact br_f (by decide) (br_f (by decide) (bX12_looksOf_70 _ _ _ _ _ _ _ _ _ (br_f (by decide) (br_f (by decide) (br_t rfl (at96 _ g3 op.2 e2))))))
        · have e2 : ∀ w, lkB V st own (i + 1) c w = (lkB V st own i c w || oth V st own (c i).2.1 w) := fun w => by rw [lkB_s, k]; simp
          simp [opM, k] at op
          rw [op.1]
          exact br_f (by decide) (br_f (by decide) (bX12_looksOf_70 _ _ _ _ _ _ _ _ _ (br_f (by decide) (br_f (by decide) (br_f (by decide) (br_t rfl (at96 _ g3 op.2 e2)))))))
      · rcases k with k | k | k | k | k | k | k <;> simp [opM, k] at op <;> exact sm1 _ op (by decide) (by decide) (fun w => by rw [lkB_s, k]; simp)
  refine nX12_looksOf _ _ _ _ (bX12_looksOf_0 _ _ _ _ ⟨M.l.o, ?_⟩)
  rw [M.b26, ix8]
  exact L n 0 0 (by omega) (by decide) (fun w => by simp [lkB, akV, akS])
end

/-! ===== the reference: parts ===== -/
section
variable {h h' : zH} {b N ns V xv : Nat} {st wt mk mm : Nat → Nat} {Q : Option Value → zH → Prop} {X : List Nat} {Y : List (Nat × Nat)} {cn : Nat → Nat} {cd : Nat → Nat → Nat × Nat × Nat}
def cm1 (K : Nat → Nat) : Nat → Nat → Nat → Nat
  | 0, _, s => s
  | d + 1, w, s => cm1 K d (w + 1) (if s.testBit w = true then s ||| K w else s)
def cmT (K : Nat → Nat) (V : Nat) : Nat → Nat → Nat
  | 0, s => s
  | k + 1, s => cmT K V k (cm1 K V 0 s)
/-- who can be come to -/
def cmF (K : Nat → Nat) (V v : Nat) : Nat := cmT K V 8 (2 ^ v)
theorem cm1_lt {K : Nat → Nat} : ∀ (d w s : Nat), (∀ v, v < w + d → K v < 256) → s < 256 → cm1 K d w s < 256
  | 0, _, s, _, h => h
  | d + 1, w, s, hK, h => by
    rw [cm1]
    refine cm1_lt d (w + 1) _ (fun v hv => hK v (by omega)) ?_
    split
    · exact Nat.or_lt_two_pow (n := 8) h (hK w (by omega))
    · exact h
theorem cmT_lt {K : Nat → Nat} : ∀ (k s : Nat), (∀ v, v < V → K v < 256) → s < 256 → cmT K V k s < 256
  | 0, s, _, h => h
  | k + 1, s, hK, h => by
    rw [cmT]
    exact cmT_lt k _ hK (cm1_lt V 0 s (fun v hv => hK v (by omega)) h)
theorem cmF_lt {K : Nat → Nat} {v : Nat} (hK : ∀ v, v < V → K v < 256) (hv : v < 8) : cmF K V v < 256 :=
  cmT_lt 8 _ hK (Nat.lt_of_lt_of_le (Nat.pow_lt_pow_right (by decide) hv) (by decide))
/-- the part of a voter -/
def ptB (K : Nat → Nat) (V v w : Nat) : Bool := decide (w < V) && ((cmF K V v).testBit w && (cmF K V w).testBit v)
def ptF (K : Nat → Nat) (V v : Nat) : Nat := bN (ptB K V v) 8
theorem lkN_lt {own n : Nat} {c : Nat → Nat × Nat × Nat} : lkN V st own n c < 256 := bN_lt
theorem s12_looks (M : mT h b N ns V st wt) (B : mB h b V N cn cd) {x : Int32} (H1 : ∀ j, x = nI j → j < V → Q (some (.int (nI (lkN V st j (cn j) (cd j))))) h) (H0 : (x < 0 ∨ nI V ≤ x) → Q (some (.int (-1))) h) : zC mX12_looks [.ref 84, .int x] h Q := by
  refine nX12_looks _ _ _ _ (bX12_looks_0 _ _ _ _ ⟨M.l.o, s12_isVoter M (fun q => ⟨_, rfl, br_t rfl (H0 q)⟩) (fun j hj e => ⟨_, rfl, br_f (by decide +kernel) ?_⟩)⟩)
  subst e
  exact ⟨M.l.o, s12_looksOf M hj (B j hj).1 (B j hj).2 ⟨_, rfl, H1 j rfl hj⟩⟩
theorem s12_comesTo {v : Nat} (M : mT h b N ns V st wt) (B : mB h b V N cn cd) (hv : v < V) (H : Q (some (.int (nI (cmF (fun w => lkN V st w (cn w) (cd w)) V v)))) h) : zC mX12_comesTo [.ref 84, .int (nI v)] h Q := by
  have hV := M.V8
  generalize hK : (fun w => lkN V st w (cn w) (cd w)) = K at H
  have K256 : ∀ v, v < V → K v < 256 := fun v _ => by rw [← hK]; exact lkN_lt
  have inner : ∀ (k : Nat), (∀ s, s < 256 → Q (some (.int (nI (cmT K V k s)))) h → zX mX12_comesTo 6 [.ref 84, .float 0, .int (nI s), .int (nI (8 - k)), .float 0] [] h Q) → k < 8 → ∀ (d w s : Nat), w + d = V → s < 256 → Q (some (.int (nI (cmT K V k (cm1 K d w s))))) h → zX mX12_comesTo 15 [.ref 84, .float 0, .int (nI s), .int (nI (7 - k)), .int (nI w)] [] h Q := by
    intro k go hk d
    induction d with
    | zero =>
      intro w s hw hs HH
      have : w = V := by omega
      subst this
      refine bX12_comesTo_15 _ _ _ _ _ _ ⟨M.l.o, s12_voterMany M ⟨_, rfl, br_t (nI_le (Nat.le_refl _) (by omega)) ?_⟩⟩
      rw [nI_1, show 7 - k + 1 = 8 - k by omega]
      exact go s hs HH
    | succ d ih =>
      intro w s hw hs HH
      rw [cm1] at HH
      refine bX12_comesTo_15 _ _ _ _ _ _ ⟨M.l.o, s12_voterMany M ⟨_, rfl, br_f (nI_ge (by omega) (by omega)) ?_⟩⟩
      rw [nI_bit (by omega) (by omega), nI_1]
      refine ⟨fun q => ⟨M.l.o, s12_looksOf M (by omega) (B w (by omega)).1 (B w (by omega)).2 ⟨_, rfl, ?_⟩⟩, fun q => ?_⟩
      · rw [nI_or, show lkN V st w (cn w) (cd w) = K w by rw [← hK]]
        rw [if_pos q] at HH
        exact ih (w + 1) _ (by omega) (Nat.or_lt_two_pow (n := 8) hs (K256 w (by omega))) HH
      · rw [if_neg q] at HH
        exact ih (w + 1) s (by omega) hs HH
  have outer : ∀ (k : Nat), k ≤ 8 → ∀ s, s < 256 → Q (some (.int (nI (cmT K V k s)))) h → zX mX12_comesTo 6 [.ref 84, .float 0, .int (nI s), .int (nI (8 - k)), .float 0] [] h Q := by
    intro k
    induction k with
    | zero =>
      intro _ s hs HH
      exact bX12_comesTo_6 _ _ _ _ _ (br_t (by decide +kernel) HH)
    | succ k ih =>
      intro hk s hs HH
      rw [cmT] at HH
      refine bX12_comesTo_6 _ _ _ _ _ (br_f (nI_ge (b := 8) (by omega) (by decide)) ?_)
      rw [show 8 - (k + 1) = 7 - k by omega]
      exact inner k (ih (by omega)) (by omega) V 0 s (by omega) hs HH
  refine nX12_comesTo _ _ _ _ (bX12_comesTo_0 _ _ _ _ ?_)
  rw [nI_1shl (by omega)]
  exact outer 8 (Nat.le_refl _) (2 ^ v) (Nat.lt_of_lt_of_le (Nat.pow_lt_pow_right (by decide) (show v < 8 by omega)) (by decide)) H
theorem s12_part (M : mT h b N ns V st wt) (B : mB h b V N cn cd) {x : Int32} (H1 : ∀ j, x = nI j → j < V → Q (some (.int (nI (ptF (fun w => lkN V st w (cn w) (cd w)) V j)))) h) (H0 : (x < 0 ∨ nI V ≤ x) → Q (some (.int (-1))) h) : zC mX12_part [.ref 84, .int x] h Q := by
  have hV := M.V8
  refine nX12_part _ _ _ _ (bX12_part_0 _ _ _ _ ⟨M.l.o, s12_isVoter M (fun q => ⟨_, rfl, br_t rfl (H0 q)⟩) (fun j hj e => ⟨_, rfl, br_f (by decide +kernel) ?_⟩)⟩)
  subst e
  have HH := H1 j rfl hj
  generalize hK : (fun w => lkN V st w (cn w) (cd w)) = K at HH
  have K256 : ∀ v, v < V → K v < 256 := fun v _ => by rw [← hK]; exact lkN_lt
  refine ⟨M.l.o, s12_comesTo M B hj ⟨_, rfl, ?_⟩⟩
  rw [hK]
  have c1 := cmF_lt (V := V) K256 (show j < 8 by omega)
  have L : ∀ (d w a : Nat), w + d = V → a < 256 → (∀ u, a.testBit u = (decide (u < w) && ptB K V j u)) → zX mX12_part 21 [.ref 84, .int (nI j), .int (nI (cmF K V j)), .int (nI a), .int (nI w)] [] h Q := by
    intro d
    induction d with
    | zero =>
      intro w a hw ha e
      have : w = V := by omega
      subst this
      refine bX12_part_21 _ _ _ _ _ _ _ ⟨M.l.o, s12_voterMany M ⟨_, rfl, br_t (nI_le (Nat.le_refl _) (by omega)) ?_⟩⟩
      rw [bN_of ha (p := ptB K w j) (fun u => by rw [e, ptB, ← Bool.and_assoc, Bool.and_self])]
      exact HH
    | succ d ih =>
      intro w a hw ha e
      have h2 : (2 : Nat) ^ w < 256 := Nat.lt_of_lt_of_le (Nat.pow_lt_pow_right (by decide) (show w < 8 by omega)) (by decide)
      have no : ptB K V j w = false → zX mX12_part 21 [.ref 84, .int (nI j), .int (nI (cmF K V j)), .int (nI a), .int (nI w + 1)] [] h Q := fun z => by
        rw [nI_1]
        refine ih (w + 1) a (by omega) ha (fun u => ?_)
        rw [e u]
        by_cases y : u = w
        · subst y; simp [z]
        · have : decide (u < w + 1) = decide (u < w) := by simp; omega
          rw [this]
      refine bX12_part_21 _ _ _ _ _ _ _ ⟨M.l.o, s12_voterMany M ⟨_, rfl, br_f (nI_ge (by omega) (by omega)) ?_⟩⟩
      rw [nI_bit (by omega) (by omega)]
      refine ⟨fun q => ⟨M.l.o, s12_comesTo M B (by omega) ⟨_, rfl, ?_⟩⟩, fun q => no (by simp [ptB]; intro _ z; exact absurd z q)⟩
      rw [hK, nI_bit (by have := cmF_lt (V := V) K256 (show w < 8 by omega); omega) (by omega)]
      refine ⟨fun q2 => ?_, fun q2 => no (by simp [ptB]; intro _ _; simpa using q2)⟩
      rw [nI_1shl (by omega), nI_or, nI_1]
      have z : ptB K V j w = true := by simp [ptB, q, q2]; omega
      refine ih (w + 1) _ (by omega) (Nat.or_lt_two_pow (n := 8) ha h2) (fun u => ?_)
      rw [tb_or2, e u]
      by_cases y : u = w
      · subst y; simp [z]
      · have h3 : decide (u < w + 1) = decide (u < w) := by simp; omega
        have h4 : decide (w = u) = false := by simp; omega
        rw [h3, h4, Bool.or_false]
  exact L V 0 0 (by omega) (by decide) (fun u => by simp)
end

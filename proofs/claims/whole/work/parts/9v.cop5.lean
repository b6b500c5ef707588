/-! ===== the class's part ===== -/
section
variable {h h' h1 h2 : zH} {Q : Option Value → zH → Prop} {t t2 sc tc nc P c N V : Nat} {o : Nat → Option Nat} {bo : Nat → Nat → Option Nat} {w w' : zSt} {x y z : Int32}
/-- on whom a voter looks -/
abbrev wKk (w : zSt) : Nat → Nat := fun v => lkN (wV w) (wS w) v (eN (wE w) v) (eD (wE w) v)
def aPart (w : zSt) (x : Int32) : Int32 := match ix x (wV w) with
  | some j => nI (ptF (wKk w) (wV w) j)
  | none => -1
theorem s11_reachedFrom {j : Nat} (O : stO w) (A : cFx h w t t2 o bo) (B : cVr h w o bo sc tc nc) (hj : j < 8) (H : Q (some (.int (nI (cmF (wKk w) (wV w) j)))) h) : zC mX11_reachedFrom [.ref 0, .int (nI j)] h Q := by
  have OB := A.1.2.2.1
  have T : cT h t (wN w) (wV w) (wS w) (wW w) := A.1.2.2.2.1.1
  have V8 := stO_V O
  have K8 : ∀ v, wKk w v < 256 := fun v => lkN_lt
  have p8 : 2 ^ j < 256 := Nat.lt_of_lt_of_le (Nat.pow_lt_pow_right (by decide) hj) (by decide)
  refine nX11_reachedFrom _ _ _ _ (bX11_reachedFrom_0 _ _ _ _ ?_)
  rw [nI_1shl (by omega)]
  have inn : ∀ (l3 : Int32) (e : Nat) (d i s : Nat), i + d = wV w → s < 256 → cm1 (wKk w) d i s = e → zX mX11_reachedFrom 6 [.ref 0, .float 0, .int (nI e), .int (l3 + 1), .float 0] [] h Q → zX mX11_reachedFrom 15 [.ref 0, .float 0, .int (nI s), .int l3, .int (nI i)] [] h Q := by
    intro l3 e d
    induction d with
    | zero =>
      intro i s hi hs he HH
      rw [cm1] at he
      subst he
      exact bX11_reachedFrom_15 _ _ _ _ _ _ ⟨OB.1, _, OB.2.2.2.2.1, T.o, br_t (by rw [T.e8]; exact nI_le (by omega) (by omega)) HH⟩
    | succ d ih =>
      intro i s hi hs he HH
      have il : i < wV w := by omega
      rw [cm1] at he
      refine bX11_reachedFrom_15 _ _ _ _ _ _ ⟨OB.1, _, OB.2.2.2.2.1, T.o, br_f (by rw [T.e8]; exact nI_ge il (by omega)) ?_⟩
      rw [nI_bit (by omega) (by omega)]
      refine ⟨fun q => ⟨_, OB.2.2.2.1.1, A.2.2.1.1.1.1, ?_⟩, fun q => ?_⟩
      · have B8 := B.2.2.1.1 i (by omega)
        refine s1_ballotOf A.2.2.1.1.1 (by omega) ⟨_, rfl, _, rfl, T.o, s10_looksOf T il B8.1 (fun L hL hb => ⟨_, rfl, ?_⟩)⟩
        have eL : L = wKk w i := bN_of hL hb
        rw [nI_or, nI_1]
        rw [if_pos q] at he
        exact ih (i + 1) (s ||| L) (by omega) (Nat.or_lt_two_pow (n := 8) hs hL) (by rw [eL]; exact he) HH
      · rw [nI_1]
        rw [if_neg q] at he
        exact ih (i + 1) s (by omega) hs he HH
  have out : ∀ (d i s : Nat), i + d = 8 → s < 256 → cmT (wKk w) (wV w) d s = cmF (wKk w) (wV w) j → zX mX11_reachedFrom 6 [.ref 0, .float 0, .int (nI s), .int (nI i), .float 0] [] h Q := by
    intro d
    induction d with
    | zero =>
      intro i s hi hs he
      rw [cmT] at he
      subst he
      exact bX11_reachedFrom_6 _ _ _ _ _ (br_t (by rw [nI_lit 8]; exact nI_le (by omega) (by omega)) H)
    | succ d ih =>
      intro i s hi hs he
      rw [cmT] at he
      refine bX11_reachedFrom_6 _ _ _ _ _ (br_f (by rw [nI_lit 8]; exact nI_ge (by omega) (by decide)) (inn (nI i) _ (wV w) 0 s (by omega) hs rfl ?_))
      rw [nI_1]
      exact ih (i + 1) _ (by omega) (cm1_lt _ 0 s (fun v _ => K8 v) hs) he
  exact out 8 0 (2 ^ j) rfl p8 rfl
theorem r11_part (A : cR h w P c) (H : ∀ h', fk h h' → cR h' w P (c + 1) → Q (some (.int (aPart w x))) h') : zC mX11_part [.ref 0, .int x] h Q := by
  have A0 := A
  obtain ⟨O, t, t2, o, bo, sc, tc, nc, A, B, Z⟩ := A
  have OB := A.1.2.2.1
  have T : cT h t (wN w) (wV w) (wS w) (wW w) := A.1.2.2.2.1.1
  have V8 := stO_V O
  have fin := H h fk_rf (cR_up A0)
  have K8 : ∀ v, wKk w v < 256 := fun v => lkN_lt
  refine nX11_part _ _ _ _ (bX11_part_0 _ _ _ _ ⟨OB.1, _, OB.2.2.2.2.1, T.o, s10_hasVoter T (fun q => ⟨_, rfl, br_t rfl ?_⟩) (fun j hj ex => ⟨_, rfl, br_f (by decide +kernel) ⟨OB.1, ?_⟩⟩)⟩)
  · have e : aPart w x = -1 := by unfold aPart; rw [ix_n (by omega) q]
    rw [e] at fin; exact fin
  · have e : aPart w x = nI (ptF (wKk w) (wV w) j) := by unfold aPart; rw [ex, ix_s hj (by omega)]
    rw [e] at fin
    subst ex
    refine s11_reachedFrom O A B (by omega) ⟨_, rfl, ?_⟩
    have cl : ∀ v, v < 8 → cmF (wKk w) (wV w) v < 256 := fun v hv => cmF_lt (fun v _ => K8 v) hv
    have go : ∀ (d i acc : Nat), i + d = wV w → acc < 256 → (∀ v, acc.testBit v = (decide (v < i) && ptB (wKk w) (wV w) j v)) → zX mX11_part 24 [.ref 0, .int (nI j), .int (nI (cmF (wKk w) (wV w) j)), .int (nI acc), .int (nI i), .float 0] [] h Q := by
      intro d
      induction d with
      | zero =>
        intro i acc hi ha hb
        have : acc = ptF (wKk w) (wV w) j := bN_of ha (fun v => by
          rw [hb v]
          unfold ptB
          rw [show i = wV w by omega]
          cases decide (v < wV w) <;> rfl)
        refine bX11_part_24 _ _ _ _ _ _ _ ⟨OB.1, _, OB.2.2.2.2.1, T.o, br_t (by rw [T.e8]; exact nI_le (by omega) (by omega)) ?_⟩
        rw [this]; exact fin
      | succ d ih =>
        intro i acc hi ha hb
        have il : i < wV w := by omega
        have c1 := cl j (by omega)
        have c2 := cl i (by omega)
        have skip : ptB (wKk w) (wV w) j i = false → zX mX11_part 24 [.ref 0, .int (nI j), .int (nI (cmF (wKk w) (wV w) j)), .int (nI acc), .int (nI i + 1), .float 0] [] h Q := fun pf => by
          rw [nI_1]
          refine ih (i + 1) acc (by omega) ha (fun v => ?_)
          rw [hb v]
          by_cases q : v = i
          · subst q; rw [pf, Bool.and_false, Bool.and_false]
          · rw [show decide (v < i + 1) = decide (v < i) from decide_eq_decide.mpr (by omega)]
        refine bX11_part_24 _ _ _ _ _ _ _ ⟨OB.1, _, OB.2.2.2.2.1, T.o, br_f (by rw [T.e8]; exact nI_ge il (by omega)) ?_⟩
        rw [nI_bit (by omega) (by omega)]
        refine ⟨fun q => bX11_part_51 _ _ _ _ _ _ _ _ (br_f (by decide +kernel) ⟨OB.1, s11_reachedFrom O A B (by omega) ⟨_, rfl, ?_⟩⟩), fun q => bX11_part_51 _ _ _ _ _ _ _ _ (br_t rfl (skip ?_))⟩
        · rw [nI_bit (by omega) (by omega)]
          refine ⟨fun q2 => ?_, fun q2 => skip ?_⟩
          · rw [nI_1shl (by omega), nI_or, nI_1]
            refine ih (i + 1) (acc ||| 2 ^ i) (by omega) (Nat.or_lt_two_pow (n := 8) ha (Nat.pow_lt_pow_right (by decide) (by omega))) (fun v => ?_)
            rw [or_bit, hb v]
            by_cases y : v = i
            · subst y
              unfold ptB
              rw [q, q2, decide_eq_true il, decide_eq_true (Nat.lt_succ_self v)]
              simp
            · rw [beq_false_of_ne (Ne.symm y), Bool.or_false, show decide (v < i + 1) = decide (v < i) from decide_eq_decide.mpr (by omega)]
          · unfold ptB
            rw [Bool.eq_false_iff.mpr q2, Bool.and_false, Bool.and_false]
        · unfold ptB
          rw [Bool.eq_false_iff.mpr q, Bool.false_and, Bool.and_false]
    exact go (wV w) 0 0 (by omega) (by decide) (fun v => by rw [Nat.zero_testBit]; simp)
end

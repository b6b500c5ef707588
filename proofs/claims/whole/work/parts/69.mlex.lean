/-! ===== the reference: tokens ===== -/
section
variable {h h' : zH} {Q : Option Value → zH → Prop} {n : Nat} {bs : Nat → Nat}
theorem s12_isLetter {c : Nat} (hc : c < 2 ^ 31) (H1 : isLn c = true → Q (some (.int 1)) h) (H0 : isLn c = false → Q (some (.int 0)) h) : zC mX12_isLetter [.int (nI c)] h Q := by
  refine nX12_isLetter _ _ _ (bX12_isLetter_0 _ _ _ ?_)
  rw [nI_lit 97, nI_lit 122, nI_ltI hc (by decide), nI_ltI (by decide) hc]
  refine ⟨fun q => H0 ?_, fun q => ⟨fun q2 => H0 ?_, fun q2 => H1 (isLn_iff.mpr ⟨by omega, by omega⟩)⟩⟩
  · rw [← Bool.not_eq_true, isLn_iff]; omega
  · rw [← Bool.not_eq_true, isLn_iff]; omega
theorem s12_isDigit {c : Nat} (hc : c < 2 ^ 31) (H1 : isDn c = true → Q (some (.int 1)) h) (H0 : isDn c = false → Q (some (.int 0)) h) : zC mX12_isDigit [.int (nI c)] h Q := by
  refine nX12_isDigit _ _ _ (bX12_isDigit_0 _ _ _ ?_)
  rw [nI_lit 48, nI_lit 57, nI_ltI hc (by decide), nI_ltI (by decide) hc]
  refine ⟨fun q => H0 ?_, fun q => ⟨fun q2 => H0 ?_, fun q2 => H1 (isDn_iff.mpr ⟨by omega, by omega⟩)⟩⟩
  · rw [← Bool.not_eq_true, isDn_iff]; omega
  · rw [← Bool.not_eq_true, isDn_iff]; omega
theorem sgx_no {c : Nat} (h : ∀ g, g < 8 → sgL.getD g 0 ≠ c) : ¬ sgx c < 8 := by
  intro w
  have w' : sgL.idxOf c < sgL.length := w
  apply h (sgx c) w
  unfold sgx
  rw [List.getD_eq_getElem?_getD, List.getElem?_eq_getElem w', List.getElem_idxOf w']; rfl
theorem sgx_at {c : Nat} (w : sgx c < 8) : sgL.getD (sgx c) 0 = c := by
  have w' : sgL.idxOf c < sgL.length := w
  unfold sgx
  rw [List.getD_eq_getElem?_getD, List.getElem?_eq_getElem w', List.getElem_idxOf w']; rfl
theorem s12_isSign {c : Nat} (hc : c < 2 ^ 31) (H1 : sgx c < 8 → Q (some (.int 1)) h) (H0 : ¬ sgx c < 8 → Q (some (.int 0)) h) : zC mX12_isSign [.int (nI c)] h Q := by
  refine nX12_isSign _ _ _ (bX12_isSign_0 _ _ _ ?_)
  have e : ∀ k : Nat, k < 2 ^ 31 → (nI c = nI k ↔ c = k) := fun k hk => nI_eq hc hk
  rw [nI_lit 59, nI_lit 40, nI_lit 41, nI_lit 60, nI_lit 62, nI_lit 61, nI_lit 43, nI_lit 45, e 59 (by decide), e 40 (by decide), e 41 (by decide), e 60 (by decide), e 62 (by decide), e 61 (by decide), e 43 (by decide), e 45 (by decide)]
  have go : ∀ g, g < 8 → c = sgL.getD g 0 → zX mX12_isSign 48 [.float 0] [] h Q := fun g hg w => bX12_isSign_48 _ _ (H1 (by
    have : ∀ g, g < 8 → sgx (sgL.getD g 0) < 8 := by decide +kernel
    rw [w]; exact this g hg))
  refine ⟨go 0 (by decide), fun q0 => ⟨go 1 (by decide), fun q1 => ⟨go 2 (by decide), fun q2 => ⟨go 3 (by decide), fun q3 => ⟨go 4 (by decide), fun q4 => ⟨go 5 (by decide), fun q5 => ⟨go 6 (by decide), fun q6 => ⟨go 7 (by decide), fun q7 => H0 (sgx_no (fun g hg w => ?_))⟩⟩⟩⟩⟩⟩⟩⟩
  have hg' : g = 0 ∨ g = 1 ∨ g = 2 ∨ g = 3 ∨ g = 4 ∨ g = 5 ∨ g = 6 ∨ g = 7 := by omega
  rcases hg' with rfl | rfl | rfl | rfl | rfl | rfl | rfl | rfl
  · exact q0 w.symm
  · exact q1 w.symm
  · exact q2 w.symm
  · exact q3 w.symm
  · exact q4 w.symm
  · exact q5 w.symm
  · exact q6 w.symm
  · exact q7 w.symm
/-- the reference's word of a kind -/
theorem cvO : ownL.map cv = [1851878757, 126943972648308, 508676040050, 24948, 131277443786868, 108170570395508, 26982, 1952998766, 1701606245, 422725119595, 24947, 1836020596, 26990, 112585980867444, 28530, 6385252, 7237492, 508676040051, 108217630616435, 26995] := by
  have e : ∀ x, cv x = cvF 9 x ∨ ¬ x < 32 ^ 8 := fun x => by
    by_cases w : x < 32 ^ 8
    · refine Or.inl ?_
      have st : ∀ (d x : Nat), x < 32 ^ d → ∀ m, x ≤ m → cvF m x = cvF (d + 1) x := by
        intro d
        induction d with
        | zero =>
          intro x hx m hm
          have : x = 0 := by simpa using hx
          subst this
          cases m with
          | zero => rfl
          | succ m => rw [cvF, cvF, if_pos rfl, if_pos rfl]
        | succ d ih =>
          intro x hx m hm
          by_cases z : x = 0
          · subst z
            cases m with
            | zero => rfl
            | succ m => rw [cvF, cvF, if_pos rfl, if_pos rfl]
          · cases m with
            | zero => omega
            | succ m =>
              rw [cvF, cvF, if_neg z, if_neg z, ih (x / 32) (by rw [Nat.pow_succ] at hx; omega) m (by omega)]
      exact st 8 x w x (Nat.le_refl _)
    · exact Or.inr w
  have e2 : ownL.map cv = ownL.map (cvF 9) := List.map_congr_left (fun x hx => by
    have : ∀ x ∈ ownL, x < 32 ^ 8 := by decide +kernel
    rcases e x with w | w
    · exact w
    · exact absurd (this x hx) w)
  rw [e2]
  decide +kernel
def wdM (k : Nat) : Nat := (ownL.map cv).getD k 0
theorem wdM_of {k x : Nat} (hx : ownL[k]? = some x) : wdM k = cv x := by
  unfold wdM
  rw [List.getD_eq_getElem?_getD, List.getElem?_map, hx]; rfl
theorem s12_isKept {x : Nat} (hx : cv x < 2 ^ 64) (H1 : kwx x < 20 → Q (some (.int 1)) h) (H0 : ¬ kwx x < 20 → Q (some (.int 0)) h) : zC mX12_isKept [.long (lN (cv x))] h Q := by
  have e : ∀ (k : Nat) (w : Int64), k < 20 → w = lN (wdM k) → wdM k < 2 ^ 64 → (lg_cmp (lN (cv x)) w = 0 ↔ kwx x = k) := fun k w hk hw h6 => by
    rw [lg_cmp_eq, hw, lN_eq6 hx h6]
    obtain ⟨o, ho⟩ : ∃ o, ownL[k]? = some o := ⟨ownL[k]'(by show k < 20; exact hk), List.getElem?_eq_getElem _⟩
    rw [wdM_of ho, cv_iff]
    refine ⟨fun z => by rw [z]; exact kwx_of ho, fun z => ?_⟩
    have := kwx_lt (x := x) (by omega)
    rw [z, ho] at this
    exact (Option.some.inj this).symm
  have w : ∀ k, wdM k = [1851878757, 126943972648308, 508676040050, 24948, 131277443786868, 108170570395508, 26982, 1952998766, 1701606245, 422725119595, 24947, 1836020596, 26990, 112585980867444, 28530, 6385252, 7237492, 508676040051, 108217630616435, 26995].getD k 0 := fun k => by unfold wdM; rw [cvO]
  have i1 : zX mX12_isKept 170 [.float 0, .float 0, .float 0] [] h Q ∨ ¬ kwx x < 20 := by
    by_cases z : kwx x < 20
    · exact Or.inl (bX12_isKept_170 _ _ (H1 z))
    · exact Or.inr z
  have a170 : ∀ k, k < 20 → kwx x = k → zX mX12_isKept 170 [.float 0, .float 0, .float 0] [] h Q := fun k hk z => bX12_isKept_170 _ _ (H1 (by omega))
  have a80 : ∀ k, k < 20 → kwx x = k → zX mX12_isKept 80 [.long (lN (cv x)), .float 0, .float 0] [] h Q := fun k hk z => bX12_isKept_80 _ _ _ (bX12_isKept_85 _ _ _ _ (br_f (by decide +kernel) (a170 k hk z)))
  refine nX12_isKept _ _ _ (bX12_isKept_0 _ _ _ ?_)
  rw [e 0 (1851878757 : Int64) (by decide) (by rw [w]; rfl) (by rw [w]; decide), e 1 (126943972648308 : Int64) (by decide) (by rw [w]; rfl) (by rw [w]; decide), e 2 (508676040050 : Int64) (by decide) (by rw [w]; rfl) (by rw [w]; decide), e 3 (24948 : Int64) (by decide) (by rw [w]; rfl) (by rw [w]; decide), e 4 (131277443786868 : Int64) (by decide) (by rw [w]; rfl) (by rw [w]; decide), e 5 (108170570395508 : Int64) (by decide) (by rw [w]; rfl) (by rw [w]; decide), e 6 (26982 : Int64) (by decide) (by rw [w]; rfl) (by rw [w]; decide), e 7 (1952998766 : Int64) (by decide) (by rw [w]; rfl) (by rw [w]; decide), e 8 (1701606245 : Int64) (by decide) (by rw [w]; rfl) (by rw [w]; decide), e 9 (422725119595 : Int64) (by decide) (by rw [w]; rfl) (by rw [w]; decide)]
  refine ⟨a80 0 (by decide), fun q0 => ⟨a80 1 (by decide), fun q1 => ⟨a80 2 (by decide), fun q2 => ⟨a80 3 (by decide), fun q3 => ⟨a80 4 (by decide), fun q4 => ⟨a80 5 (by decide), fun q5 => ⟨a80 6 (by decide), fun q6 => ⟨a80 7 (by decide), fun q7 => ⟨a80 8 (by decide), fun q8 => ⟨a80 9 (by decide), fun q9 => bX12_isKept_85 _ _ _ _ (br_t rfl ?_)⟩⟩⟩⟩⟩⟩⟩⟩⟩⟩
  rw [e 10 (24947 : Int64) (by decide) (by rw [w]; rfl) (by rw [w]; decide), e 11 (1836020596 : Int64) (by decide) (by rw [w]; rfl) (by rw [w]; decide), e 13 (112585980867444 : Int64) (by decide) (by rw [w]; rfl) (by rw [w]; decide), e 12 (26990 : Int64) (by decide) (by rw [w]; rfl) (by rw [w]; decide), e 17 (508676040051 : Int64) (by decide) (by rw [w]; rfl) (by rw [w]; decide), e 18 (108217630616435 : Int64) (by decide) (by rw [w]; rfl) (by rw [w]; decide), e 19 (26995 : Int64) (by decide) (by rw [w]; rfl) (by rw [w]; decide), e 15 (6385252 : Int64) (by decide) (by rw [w]; rfl) (by rw [w]; decide), e 14 (28530 : Int64) (by decide) (by rw [w]; rfl) (by rw [w]; decide), e 16 (7237492 : Int64) (by decide) (by rw [w]; rfl) (by rw [w]; decide)]
  refine ⟨a170 10 (by decide), fun q10 => ⟨a170 11 (by decide), fun q11 => ⟨a170 13 (by decide), fun q13 => ⟨a170 12 (by decide), fun q12 => ⟨a170 17 (by decide), fun q17 => ⟨a170 18 (by decide), fun q18 => ⟨a170 19 (by decide), fun q19 => ⟨a170 15 (by decide), fun q15 => ⟨a170 14 (by decide), fun q14 => ⟨a170 16 (by decide), fun q16 => H0 (by omega)⟩⟩⟩⟩⟩⟩⟩⟩⟩⟩
/-- the text that is read -/
def mTx (h : zH) (n : Nat) (bs : Nat → Nat) : Prop := gI h 84 3 = nI n ∧ n ≤ 1600 ∧ ∀ i, i < n → aI h 86 i &&& 255 = nI (bs i) ∧ bs i < 256
abbrev YL : List (Nat × Nat) := [(84, 6), (84, 7), (84, 8), (84, 9), (84, 10)]
theorem mTx.fr {X : List Nat} {Y : List (Nat × Nat)} (T : mTx h n bs) (F : fr X Y h h') (hX : 86 ∉ X) (hY : (84, 3) ∉ Y) : mTx h' n bs := ⟨by rw [F.gi hY]; exact T.1, T.2.1, fun i hi => by rw [F.i hX]; exact T.2.2 i hi⟩
theorem mL_of (M : mLay h) (F : fr [] YL h h') : mLay h' := M.fr F (by decide)
theorem s12_sign {k : Nat} (M : mLay h) (T : mTx h n bs) (hk : k < 2 ^ 31) (H : Q (some (.int (nI (if k < n then bs k else 0)))) h) : zC mX12_sign [.ref 84, .int (nI k)] h Q := by
  have n16 := T.2.1
  refine nX12_sign _ _ _ _ (bX12_sign_0 _ _ _ _ ⟨M.o, ?_⟩)
  rw [T.1, nI_leI (by omega) hk]
  refine ⟨fun q => ?_, fun q => ⟨_, M.2.2.2.1.1, M.2.2.2.1.2.1, by rw [M.2.2.2.1.2.2]; exact vp_in_nI (by omega) (by decide), ?_⟩⟩
  · rw [if_neg (by omega)] at H; exact H
  · rw [nI_clamp hk, (T.2.2 k (by omega)).1]
    rw [if_pos (by omega)] at H; exact H
/-- what is looked at -/
def mkk (k : Nat) : Nat := if k < 20 then 3 else if k = 20 then 2 else if k = 21 then 4 else if k < 30 then 5 else if k = 30 then 0 else 1
def mCu (h : zH) (t : zTk) : Prop := gI h 84 6 = nI t.2.1 ∧ gI h 84 7 = nI t.2.2.2 ∧ gI h 84 8 = nI (mkk t.1) ∧ (t.1 ≤ 20 → gL h 84 10 = lN (cv t.2.2.1)) ∧ (t.1 = 21 → gI h 84 9 = nI t.2.2.1)
theorem s12_goOn {e : Nat} (M : mLay h) (T : mTx h n bs) (he : gI h 84 7 = nI e) (hen : e ≤ n) (H : ∀ h', fr [] YL h h' → mCu h' (lexT n bs e) → Q none h') : zC mX12_goOn [.ref 84] h Q := by
  have n16 := T.2.1
  -- behind the blanks
  have at58 : ∀ (a : Nat) (h0 : zH), a = rnn n (fun i => isBn (bs i)) e → fr [] YL h h0 → gI h0 84 6 = nI a → zX mX12_goOn 58 [.ref 84, .float 0, .float 0] [] h0 Q := fun a h0 ha F g6 => by
    have M0 := mL_of M F
    have T0 := T.fr F (by simp) (by simp)
    have an : a ≤ n := by rw [ha]; exact rnn_le hen
    unfold lexT at H
    rw [← ha] at H
    simp only [] at H
    refine bX12_goOn_58 _ _ _ ⟨M0.o, ?_⟩
    rw [g6]
    refine s12_sign M0 T0 (by omega) ⟨_, rfl, M0.o, fun h5 e5 => ?_⟩
    have F5 : fr [] YL h0 h5 := by rw [e5]; exact fr_pF (by simp) M0.o rfl rfl
    have G5 := F.tr F5
    have M5 := mL_of M G5
    have T5 := T.fr G5 (by simp) (by simp)
    have c6 : gI h5 84 6 = nI a := by rw [e5, gI_pF_n (Or.inr (by decide))]; exact g6
    have c7 : gI h5 84 7 = nI (a + 1) := by rw [e5, gI_pF_s M0.o (by decide), g6, nI_1]
    rw [c6, T5.1, nI_ltI (by omega) (by omega)]
    refine ⟨fun q => ?_, fun q => ?_⟩
    · rw [if_pos q]
      rw [if_neg (by omega)] at H
      have b256 := (T.2.2 a q).2
      -- a letter
      have at199 : ∀ (z : Nat) (h0 : zH), z = rnn n (fun i => isLn (bs i)) a → isLn (bs a) = true → fr [] YL h h0 → gI h0 84 6 = nI a → gI h0 84 7 = nI z → (z - a ≤ 8 → gL h0 84 10 = lN (cv (wv bs a (z - a)))) → zX mX12_goOn 199 [.ref 84, .float 0, .float 0] [] h0 Q := fun z h0 hz hl F g6 g7 g10 => by
        have M0 := mL_of M F
        have zn : z ≤ n := by rw [hz]; exact rnn_le an
        have za : a ≤ z := by rw [hz]; exact rnn_ge
        rw [if_pos hl, ← hz] at H
        have al : ∀ k, k < z - a → isLn (bs (a + k)) = true := fun k hk => rnn_all (n := n) (p := fun i => isLn (bs i)) (i := a) (k := a + k) (by omega) (by rw [← hz]; omega)
        have fin : ∀ (h1 : zH) (κ x : Nat), h1 = pF h0 84 8 (.int (nI (mkk κ))) → H = H → (κ ≤ 20 → z - a ≤ 8 ∧ x = wv bs a (z - a)) → κ ≠ 21 → mCu h1 (κ, a, x, z) := fun h1 κ x e1 _ hx h21 => by
          refine ⟨?_, ?_, ?_, fun w => ?_, fun w => absurd w h21⟩
          · rw [e1, gI_pF_n (Or.inr (by decide))]; exact g6
          · rw [e1, gI_pF_n (Or.inr (by decide))]; exact g7
          · rw [e1, gI_pF_s M0.o (by decide)]
          · rw [e1, gL_pF_n (Or.inr (by decide)), g10 (hx w).1, (hx w).2]
        refine bX12_goOn_199 _ _ _ ⟨M0.o, ?_⟩
        rw [g6, g7, nI_sub za, nI_lit 8, nI_leI (by omega) (by decide)]
        refine ⟨fun q8 => ?_, fun q8 h1 e1 => ?_⟩
        · rw [if_neg (by omega)] at H
          rw [g10 q8]
          have m64 : cv (wv bs a (z - a)) < 2 ^ 64 := by
            have := (mv_lt (bs := bs) (a := a) (z - a) al).2
            rw [mv_cv _ al] at this
            refine Nat.lt_of_lt_of_le this ?_
            exact Nat.le_trans (Nat.pow_le_pow_right (by decide) q8) (by decide)
          refine s12_isKept m64 (fun w => ⟨_, rfl, br_f (by decide +kernel) ⟨M0.o, fun h1 e1 => ?_⟩⟩) (fun w => ⟨_, rfl, br_t rfl ⟨M0.o, fun h1 e1 => ?_⟩⟩)
          · refine H h1 (F.tr (by rw [e1]; exact fr_pF (by simp) M0.o rfl rfl)) (fin h1 _ _ (by rw [e1]; congr 2; unfold mkk; rw [if_pos w]; rfl) rfl (fun _ => ⟨q8, rfl⟩) (by omega))
          · have k20 : kwx (wv bs a (z - a)) = 20 := by have := @kwx_le (wv bs a (z - a)); omega
            refine H h1 (F.tr (by rw [e1]; exact fr_pF (by simp) M0.o rfl rfl)) (fin h1 _ _ (by rw [e1, k20]; rfl) rfl (fun _ => ⟨q8, rfl⟩) (by omega))
        · rw [if_pos (by omega)] at H
          exact H h1 (F.tr (by rw [e1]; exact fr_pF (by simp) M0.o rfl rfl)) (fin h1 31 0 (by rw [e1]; rfl) rfl (fun w => absurd w (by decide)) (by decide))
      have at156 : ∀ (z : Nat), z = rnn n (fun i => isLn (bs i)) a → isLn (bs a) = true → ∀ (d k : Nat) (h0 : zH), k + d = min (z - a) 8 → fr [] YL h h0 → gI h0 84 6 = nI a → gI h0 84 7 = nI z → gL h0 84 10 = lN (cv (wv bs a k)) → zX mX12_goOn 156 [.ref 84, .float 0, .int (nI (a + k))] [] h0 Q := by
        intro z hz hl d
        have zn : z ≤ n := by rw [hz]; exact rnn_le an
        have za : a ≤ z := by rw [hz]; exact rnn_ge
        have al : ∀ k, k < z - a → isLn (bs (a + k)) = true := fun k hk => rnn_all (n := n) (p := fun i => isLn (bs i)) (i := a) (k := a + k) (by omega) (by rw [← hz]; omega)
        induction d with
        | zero =>
          intro k h0 hk F g6 g7 g10
          have M0 := mL_of M F
          have nx := at199 z h0 hz hl F g6 g7 (fun w => by rw [g10, show k = z - a by omega])
          refine bX12_goOn_156 _ _ _ _ ⟨M0.o, ?_⟩
          rw [g7, g6, nI_lit 8, nI_add, nI_leI (by omega) (by omega), nI_leI (by omega) (by omega)]
          exact ⟨fun _ => nx, fun w => br_t (by omega) nx⟩
        | succ d ih =>
          intro k h0 hk F g6 g7 g10
          have M0 := mL_of M F
          have T0 := T.fr F (by simp) (by simp)
          refine bX12_goOn_156 _ _ _ _ ⟨M0.o, ?_⟩
          rw [g7, g6, nI_lit 8, nI_add, nI_leI (by omega) (by omega), nI_leI (by omega) (by omega)]
          refine br_f (by omega) (br_f (by omega) (s12_sign M0 T0 (by omega) ⟨_, rfl, M0.o, fun h7 e7 => ?_⟩))
          rw [if_pos (by omega)] at e7
          have b2 := (T.2.2 (a + k) (by omega)).2
          have l1 := isLn_iff.mp (al k (by omega))
          rw [g10, nI_l (n := bs (a + k)) (by omega), lN_so _ (k := 8) (s := (nI 8).toInt64 &&& 63) (by decide) (by decide +kernel) (by omega)] at e7
          have em : 2 ^ 8 * cv (wv bs a k) + bs (a + k) = cv (wv bs a (k + 1)) := by
            rw [← mv_cv k (fun j hj => al j (by omega)), ← mv_cv (k + 1) (fun j hj => al j (by omega)), mv]
          rw [em] at e7
          rw [nI_1]
          have F7 : fr [] YL h0 h7 := by rw [e7]; exact fr_pF (by simp) M0.o rfl rfl
          exact ih (k + 1) h7 (by omega) (F.tr F7) (by rw [e7, gI_pF_n (Or.inr (by decide))]; exact g6) (by rw [e7, gI_pF_n (Or.inr (by decide))]; exact g7) (by rw [e7, gL_pF_s M0.o (by decide)])
      have at119 : isLn (bs a) = true → ∀ (d k : Nat) (h0 : zH), k + d = n → a ≤ k → rnn n (fun i => isLn (bs i)) k = rnn n (fun i => isLn (bs i)) a → fr [] YL h h0 → gI h0 84 6 = nI a → gI h0 84 7 = nI k → zX mX12_goOn 119 [.ref 84, .float 0, .float 0] [] h0 Q := by
        intro hl d
        have stop : ∀ (k : Nat) (h0 : zH), fr [] YL h h0 → gI h0 84 6 = nI a → gI h0 84 7 = nI k → k = rnn n (fun i => isLn (bs i)) a → ∀ h8, h8 = pF h0 84 10 (.long 0) → zX mX12_goOn 156 [.ref 84, .float 0, .int (gI h8 84 6)] [] h8 Q := fun k h0 F g6 g7 hk h8 e8 => by
          have M0 := mL_of M F
          have F8 : fr [] YL h0 h8 := by rw [e8]; exact fr_pF (by simp) M0.o rfl rfl
          have c6 : gI h8 84 6 = nI a := by rw [e8, gI_pF_n (Or.inr (by decide))]; exact g6
          rw [c6]
          exact at156 k hk hl (min (k - a) 8) 0 h8 (by omega) (F.tr F8) c6 (by rw [e8, gI_pF_n (Or.inr (by decide))]; exact g7) (by rw [e8, gL_pF_s M0.o (by decide)]; rfl)
        induction d with
        | zero =>
          intro k h0 hk hak hr F g6 g7
          have M0 := mL_of M F
          have T0 := T.fr F (by simp) (by simp)
          refine bX12_goOn_119 _ _ _ ⟨M0.o, ?_⟩
          rw [g7]
          refine s12_sign M0 T0 (by omega) ⟨_, rfl, ?_⟩
          rw [if_neg (by omega)]
          refine s12_isLetter (by decide) (fun w => absurd w (by decide)) (fun w => ⟨_, rfl, br_t rfl ⟨M0.o, fun h8 e8 => stop k h0 F g6 g7 ?_ h8 e8⟩⟩)
          rw [← hr, rnn_n (by omega)]
        | succ d ih =>
          intro k h0 hk hak hr F g6 g7
          have M0 := mL_of M F
          have T0 := T.fr F (by simp) (by simp)
          refine bX12_goOn_119 _ _ _ ⟨M0.o, ?_⟩
          rw [g7]
          refine s12_sign M0 T0 (by omega) ⟨_, rfl, ?_⟩
          rw [if_pos (by omega)]
          have b2 := (T.2.2 k (by omega)).2
          refine s12_isLetter (by omega) (fun w => ⟨_, rfl, br_f (by decide +kernel) ⟨M0.o, fun h8 e8 => ?_⟩⟩) (fun w => ⟨_, rfl, br_t rfl ⟨M0.o, fun h8 e8 => stop k h0 F g6 g7 ?_ h8 e8⟩⟩)
          · have F8 : fr [] YL h0 h8 := by rw [e8]; exact fr_pF (by simp) M0.o rfl rfl
            exact ih (k + 1) h8 (by omega) (by omega) (by rw [← hr]; exact (rnn_s (p := fun i => isLn (bs i)) (by omega) w).symm) (F.tr F8) (by rw [e8, gI_pF_n (Or.inr (by decide))]; exact g6) (by rw [e8, gI_pF_s M0.o (by decide), g7, nI_1])
          · rw [← hr]; exact (rnn_f (p := fun i => isLn (bs i)) w).symm
      -- a digit
      have at259 : isLn (bs a) = false → isDn (bs a) = true → ∀ (d k : Nat) (h0 : zH), k + d = n → a ≤ k → (∀ j, a ≤ j → j < k → isDn (bs j) = true) → rnn n (fun i => isDn (bs i)) k = rnn n (fun i => isDn (bs i)) a → fr [] YL h h0 → gI h0 84 6 = nI a → gI h0 84 7 = nI k → gI h0 84 9 = nI (nv bs a (min (k - a) 4)) → zX mX12_goOn 259 [.ref 84, .float 0, .float 0] [] h0 Q := by
        intro hl hd d
        rw [hl, if_neg (by decide), if_pos hd] at H
        have stop : ∀ (k : Nat) (h0 : zH), k ≤ n → a ≤ k → fr [] YL h h0 → gI h0 84 6 = nI a → gI h0 84 7 = nI k → gI h0 84 9 = nI (nv bs a (min (k - a) 4)) → k = rnn n (fun i => isDn (bs i)) a → oK h0 84 12 ∧ (((4 : Int32) < ((gI h0 84 7) - (gI h0 84 6)) → (∀ h9 : zH, h9 = (pF h0 84 8 (.int (1 : Int32))) → (Q none h9))) ∧ (¬ ((4 : Int32) < ((gI h0 84 7) - (gI h0 84 6))) → (zC mX12_sign [.ref 84, .int (gI h0 84 7)] h0 (fun r0 h11 => ∃ x12 : Int32, r0 = some (.int x12) ∧ (zC mX12_isLetter [.int x12] h11 (fun r0 h13 => ∃ x14 : Int32, r0 = some (.int x14) ∧ ((x14 = 0 → (oK h13 84 12 ∧ (∀ h17 : zH, h17 = (pF h13 84 8 (.int (4 : Int32))) → (Q none h17)))) ∧ (¬ (x14 = 0) → (oK h13 84 12 ∧ (∀ h20 : zH, h20 = (pF h13 84 8 (.int (1 : Int32))) → (Q none h20))))))))))) := fun k h0 hkn hak F g6 g7 g9 hk => by
          have M0 := mL_of M F
          have T0 := T.fr F (by simp) (by simp)
          rw [← hk] at H
          have bad : 4 < k - a ∨ (k < n ∧ isLn (bs k) = true) → ∀ h9 : zH, h9 = (pF h0 84 8 (.int (1 : Int32))) → Q none h9 := fun w h9 e9 => by
            rw [if_pos w] at H
            refine H h9 (F.tr (by rw [e9]; exact fr_pF (by simp) M0.o rfl rfl)) ⟨?_, ?_, ?_, fun w => absurd (show (31 : Nat) ≤ 20 from w) (by decide), fun w => absurd (show (31 : Nat) = 21 from w) (by decide)⟩
            · rw [e9, gI_pF_n (Or.inr (by decide))]; exact g6
            · rw [e9, gI_pF_n (Or.inr (by decide))]; exact g7
            · rw [e9, gI_pF_s M0.o (by decide)]; rfl
          have good : ¬ (4 < k - a ∨ (k < n ∧ isLn (bs k) = true)) → ∀ h9 : zH, h9 = (pF h0 84 8 (.int (4 : Int32))) → Q none h9 := fun w h9 e9 => by
            rw [if_neg w] at H
            refine H h9 (F.tr (by rw [e9]; exact fr_pF (by simp) M0.o rfl rfl)) ⟨?_, ?_, ?_, fun w => absurd (show (21 : Nat) ≤ 20 from w) (by decide), fun _ => ?_⟩
            · rw [e9, gI_pF_n (Or.inr (by decide))]; exact g6
            · rw [e9, gI_pF_n (Or.inr (by decide))]; exact g7
            · rw [e9, gI_pF_s M0.o (by decide)]; rfl
            · rw [e9, gI_pF_n (Or.inr (by decide)), g9, Nat.min_eq_left (by omega)]
          refine ⟨M0.o, ?_⟩
          rw [g6, g7, nI_sub hak, nI_lit 4, nI_ltI (by decide) (by omega)]
          refine ⟨fun q4 => bad (Or.inl q4), fun q4 => s12_sign M0 T0 (by omega) ⟨_, rfl, ?_⟩⟩
          by_cases kn : k < n
          · rw [if_pos kn]
            have b2 := (T.2.2 k kn).2
            exact s12_isLetter (by omega) (fun w => ⟨_, rfl, br_f (by decide +kernel) ⟨M0.o, bad (Or.inr ⟨kn, w⟩)⟩⟩) (fun w => ⟨_, rfl, br_t rfl ⟨M0.o, good (fun z => by rcases z with z | z; exact q4 z; rw [w] at z; exact absurd z.2 (by decide))⟩⟩)
          · rw [if_neg kn]
            exact s12_isLetter (by decide) (fun w => absurd w (by decide)) (fun w => ⟨_, rfl, br_t rfl ⟨M0.o, good (fun z => by rcases z with z | z; exact q4 z; exact kn z.1)⟩⟩)
        induction d with
        | zero =>
          intro k h0 hk hak al hr F g6 g7 g9
          have M0 := mL_of M F
          have T0 := T.fr F (by simp) (by simp)
          refine bX12_goOn_259 _ _ _ ⟨M0.o, ?_⟩
          have st := stop k h0 (by omega) hak F g6 g7 g9 (by rw [← hr, rnn_n (by omega)])
          rw [g7] at st ⊢
          refine s12_sign M0 T0 (by omega) ⟨_, rfl, ?_⟩
          rw [if_neg (by omega)]
          exact s12_isDigit (by decide) (fun w => absurd w (by decide)) (fun w => ⟨_, rfl, br_t rfl (by rw [g7]; exact st)⟩)
        | succ d ih =>
          intro k h0 hk hak al hr F g6 g7 g9
          have M0 := mL_of M F
          have T0 := T.fr F (by simp) (by simp)
          refine bX12_goOn_259 _ _ _ ⟨M0.o, ?_⟩
          have b2 := (T.2.2 k (by omega)).2
          have st := fun (w : isDn (bs k) = false) => stop k h0 (by omega) hak F g6 g7 g9 (by rw [← hr]; exact (rnn_f (p := fun i => isDn (bs i)) w).symm)
          rw [g7] at st ⊢
          refine s12_sign M0 T0 (by omega) ⟨_, rfl, ?_⟩
          rw [if_pos (by omega)]
          refine s12_isDigit (by omega) (fun w => ⟨_, rfl, br_f (by decide +kernel) ⟨M0.o, ?_⟩⟩) (fun w => ⟨_, rfl, br_t rfl (by rw [g7]; exact st w)⟩)
          have r' : rnn n (fun i => isDn (bs i)) (k + 1) = rnn n (fun i => isDn (bs i)) a := by rw [← hr]; exact (rnn_s (p := fun i => isDn (bs i)) (by omega) w).symm
          have al' : ∀ j, a ≤ j → j < k + 1 → isDn (bs j) = true := fun j h1 h2 => by
            by_cases z : j = k
            · rw [z]; exact w
            · exact al j h1 (by omega)
          rw [g6, g7, nI_sub hak, nI_lit 4, nI_leI (by decide) (by omega)]
          refine ⟨fun q4 h8 e8 => ?_, fun q4 => s12_sign M0 T0 (by omega) ⟨_, rfl, M0.o, fun h8 e8 h9 e9 => ?_⟩⟩
          · have F8 : fr [] YL h0 h8 := by rw [e8]; exact fr_pF (by simp) M0.o rfl rfl
            refine ih (k + 1) h8 (by omega) (by omega) al' r' (F.tr F8) (by rw [e8, gI_pF_n (Or.inr (by decide))]; exact g6) (by rw [e8, gI_pF_s M0.o (by decide), nI_1]) ?_
            rw [e8, gI_pF_n (Or.inr (by decide)), g9, Nat.min_eq_right (by omega), Nat.min_eq_right (by omega)]
          · rw [if_pos (by omega), g9] at e8
            have dd := isDn_iff.mp w
            have ev : ((10 : Int32) * nI (nv bs a (min (k - a) 4)) + nI (bs k)) - 48 = nI (nv bs a (k + 1 - a)) := by
              rw [nI_lit 10, nI_lit 48, pk_mul, nI_add, nI_sub (by omega), Nat.min_eq_left (by omega), show k + 1 - a = k - a + 1 by omega, nv, show a + (k - a) = k by omega]
              congr 1; omega
            rw [ev] at e8
            have F8 : fr [] YL h0 h8 := by rw [e8]; exact fr_pF (by simp) M0.o rfl rfl
            have F9 : fr [] YL h8 h9 := by rw [e9]; exact fr_pF (by simp) (F8.o M0.o) rfl rfl
            have d7 : gI h8 84 7 = nI k := by rw [e8, gI_pF_n (Or.inr (by decide))]; exact g7
            refine ih (k + 1) h9 (by omega) (by omega) al' r' (F.tr (F8.tr F9)) ?_ (by rw [e9, gI_pF_s (F8.o M0.o) (by decide), d7, nI_1]) ?_
            · rw [e9, gI_pF_n (Or.inr (by decide)), e8, gI_pF_n (Or.inr (by decide))]; exact g6
            · rw [e9, gI_pF_n (Or.inr (by decide)), e8, gI_pF_s M0.o (by decide), Nat.min_eq_left (by omega)]
      refine s12_isLetter (by omega) (fun wl => ⟨_, rfl, br_f (by decide +kernel) ?_⟩) (fun wl => ⟨_, rfl, br_t rfl (s12_isDigit (by omega) (fun wd => ⟨_, rfl, br_f (by decide +kernel) ⟨M5.o, fun h24 e24 h26 e26 => ?_⟩⟩) (fun wd => ⟨_, rfl, br_t rfl (s12_isSign (by omega) (fun ws => ⟨_, rfl, br_f (by decide +kernel) ⟨M5.o, fun h21 e21 => ?_⟩⟩) (fun ws => ⟨_, rfl, br_t rfl ⟨M5.o, fun h18 e18 => ?_⟩⟩))⟩))⟩)
      · exact at119 wl (n - (a + 1)) (a + 1) h5 (by omega) (by omega) (rnn_s (p := fun i => isLn (bs i)) q wl).symm G5 c6 c7
      · have F24 : fr [] YL h5 h24 := by rw [e24]; exact fr_pF (by simp) M5.o rfl rfl
        have o24 := F24.o M5.o
        have F26 : fr [] YL h24 h26 := by rw [e26]; exact fr_pF (by simp) o24 rfl rfl
        have d6 : gI h24 84 6 = nI a := by rw [e24, gI_pF_n (Or.inr (by decide))]; exact c6
        refine at259 wl wd (n - a) a h26 (by omega) (Nat.le_refl _) (fun j h1 h2 => absurd h2 (by omega)) rfl (G5.tr (F24.tr F26)) (by rw [e26, gI_pF_n (Or.inr (by decide))]; exact d6) (by rw [e26, gI_pF_s o24 (by decide), d6]) ?_
        rw [e26, gI_pF_n (Or.inr (by decide)), e24, gI_pF_s M5.o (by decide), Nat.sub_self]; rfl
      · rw [wl, wd, if_neg (by decide), if_neg (by decide), if_pos ws] at H
        refine H h21 (G5.tr (by rw [e21]; exact fr_pF (by simp) M5.o rfl rfl)) ⟨?_, ?_, ?_, fun w => absurd (show 22 + sgx (bs a) ≤ 20 from w) (by omega), fun w => absurd (show 22 + sgx (bs a) = 21 from w) (by omega)⟩
        · rw [e21, gI_pF_n (Or.inr (by decide))]; exact c6
        · rw [e21, gI_pF_n (Or.inr (by decide))]; exact c7
        · rw [e21, gI_pF_s M5.o (by decide)]
          show _ = nI (mkk (22 + sgx (bs a)))
          unfold mkk
          rw [if_neg (by omega), if_neg (by omega), if_neg (by omega), if_pos (by omega)]; rfl
      · rw [wl, wd, if_neg (by decide), if_neg (by decide), if_neg ws] at H
        refine H h18 (G5.tr (by rw [e18]; exact fr_pF (by simp) M5.o rfl rfl)) ⟨?_, ?_, ?_, fun w => absurd (show (31 : Nat) ≤ 20 from w) (by decide), fun w => absurd (show (31 : Nat) = 21 from w) (by decide)⟩
        · rw [e18, gI_pF_n (Or.inr (by decide))]; exact c6
        · rw [e18, gI_pF_n (Or.inr (by decide))]; exact c7
        · rw [e18, gI_pF_s M5.o (by decide)]; rfl
    · rw [if_pos (by omega)] at H
      intro h28 e28 h30 e30 h32 e32
      have F28 : fr [] YL h5 h28 := by rw [e28]; exact fr_pF (by simp) M5.o rfl rfl
      have o28 := F28.o M5.o
      have F30 : fr [] YL h28 h30 := by rw [e30]; exact fr_pF (by simp) o28 rfl rfl
      have o30 := F30.o o28
      have F32 : fr [] YL h30 h32 := by rw [e32]; exact fr_pF (by simp) o30 rfl rfl
      have G28 := G5.tr F28
      have G30 := G28.tr F30
      have T28 := T.fr G28 (by simp) (by simp)
      have T30 := T.fr G30 (by simp) (by simp)
      refine H h32 (G30.tr F32) ⟨?_, ?_, ?_, fun w => absurd (show (30 : Nat) ≤ 20 from w) (by decide), fun w => absurd (show (30 : Nat) = 21 from w) (by decide)⟩
      · rw [e32, gI_pF_n (Or.inr (by decide)), e30, gI_pF_s o28 (by decide)]; exact T28.1
      · rw [e32, gI_pF_s o30 (by decide)]; exact T30.1
      · rw [e32, gI_pF_n (Or.inr (by decide)), e30, gI_pF_n (Or.inr (by decide)), e28, gI_pF_s M5.o (by decide)]; rfl
  -- the blanks
  refine nX12_goOn _ _ _ (bX12_goOn_0 _ _ _ ⟨M.o, fun h2 e2 => ?_⟩)
  have F2 : fr [] YL h h2 := by rw [e2]; exact fr_pF (by simp) M.o rfl rfl
  have go : ∀ (d k : Nat) (h0 : zH), k + d = n → rnn n (fun i => isBn (bs i)) k = rnn n (fun i => isBn (bs i)) e → fr [] YL h h0 → gI h0 84 6 = nI k → zX mX12_goOn 8 [.ref 84, .float 0, .float 0] [] h0 Q := by
    intro d
    induction d with
    | zero =>
      intro k h0 hk hr F g6
      have M0 := mL_of M F
      have T0 := T.fr F (by simp) (by simp)
      refine bX12_goOn_8 _ _ _ ⟨M0.o, ?_⟩
      rw [T0.1, g6]
      exact br_t (nI_le (by omega) (by omega)) (at58 k h0 (by rw [← hr, rnn_n (by omega)]) F g6)
    | succ d ih =>
      intro k h0 hk hr F g6
      have M0 := mL_of M F
      have T0 := T.fr F (by simp) (by simp)
      have b2 := (T.2.2 k (by omega)).2
      refine bX12_goOn_8 _ _ _ ⟨M0.o, ?_⟩
      rw [T0.1, g6]
      refine br_f (nI_ge (by omega) (by omega)) (s12_sign M0 T0 (by omega) ⟨_, rfl, ?_⟩)
      rw [if_pos (by omega), nI_lit 32, nI_eq (by omega) (by decide)]
      have nx : isBn (bs k) = true → ∀ h7, h7 = pF h0 84 6 (.int (nI k + 1)) → zX mX12_goOn 8 [.ref 84, .float 0, .float 0] [] h7 Q := fun w h7 e7 => by
        have F7 : fr [] YL h0 h7 := by rw [e7]; exact fr_pF (by simp) M0.o rfl rfl
        exact ih (k + 1) h7 (by omega) (by rw [← hr]; exact (rnn_s (p := fun i => isBn (bs i)) (by omega) w).symm) (F.tr F7) (by rw [e7, gI_pF_s M0.o (by decide), nI_1])
      refine ⟨fun q => ⟨M0.o, fun h7 e7 => nx (isBn_iff.mpr (Or.inl q)) h7 (by rw [e7, g6])⟩, fun q => ⟨M0.o, ?_⟩⟩
      rw [g6]
      refine s12_sign M0 T0 (by omega) ⟨_, rfl, ?_⟩
      rw [if_pos (by omega), nI_lit 10, nI_eq (by omega) (by decide)]
      refine ⟨fun q2 => ⟨M0.o, fun h7 e7 => nx (isBn_iff.mpr (Or.inr q2)) h7 (by rw [e7, g6])⟩, fun q2 => at58 k h0 ?_ F g6⟩
      rw [← hr]
      refine (rnn_f (p := fun i => isBn (bs i)) ?_).symm
      show isBn (bs k) = false
      rw [← Bool.not_eq_true, isBn_iff]; omega
  exact go (n - e) e h2 (by omega) rfl F2 (by rw [e2, gI_pF_s M.o (by decide), he])
end

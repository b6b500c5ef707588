/-! ===== the reference: looking at a token ===== -/
section
variable {h h' : zH} {Q : Option Value → zH → Prop} {n i : Nat} {bs : Nat → Nat}
theorem wdM_l (k : Nat) : wdM k = [1851878757, 126943972648308, 508676040050, 24948, 131277443786868, 108170570395508, 26982, 1952998766, 1701606245, 422725119595, 24947, 1836020596, 26990, 112585980867444, 28530, 6385252, 7237492, 508676040051, 108217630616435, 26995].getD k 0 := by unfold wdM; rw [cvO]
theorem wdM_lt (k : Nat) (hk : k < 20) : wdM k < 2 ^ 64 := by
  rw [wdM_l]
  have : ∀ k, k < 20 → [1851878757, 126943972648308, 508676040050, 24948, 131277443786868, 108170570395508, 26982, 1952998766, 1701606245, 422725119595, 24947, 1836020596, 26990, 112585980867444, 28530, 6385252, 7237492, 508676040051, 108217630616435, 26995].getD k 0 < 2 ^ 64 := by decide +kernel
  exact this k hk
/-- the reader stands at token i -/
def mPs (h : zH) (n : Nat) (bs : Nat → Nat) (i : Nat) : Prop := mLay h ∧ mTx h n bs ∧ mCu h (tk n bs i)
def mFl (h : zH) (e : Nat × Nat) : Prop := gI h 84 4 = nI e.1 ∧ gI h 84 5 = nI e.2 ∧ 0 < e.1 ∧ e.1 ≤ 5
def mGd (h : zH) : Prop := gI h 84 4 = 0 ∧ gI h 84 5 = -1
theorem mFl.ne {e : Nat × Nat} (E : mFl h e) : ¬ gI h 84 4 = 0 := by rw [E.1]; exact nI_ne0 E.2.2.1 (by have := E.2.2.2; omega)
theorem mFl.fr {X : List Nat} {Y : List (Nat × Nat)} {e : Nat × Nat} (E : mFl h e) (F : fr X Y h h') (h1 : (84, 4) ∉ Y) (h2 : (84, 5) ∉ Y) : mFl h' e := ⟨by rw [F.gi h1]; exact E.1, by rw [F.gi h2]; exact E.2.1, E.2.2⟩
theorem mGd.fr {X : List Nat} {Y : List (Nat × Nat)} (E : mGd h) (F : fr X Y h h') (h1 : (84, 4) ∉ Y) (h2 : (84, 5) ∉ Y := by simp) : mGd h' := ⟨by rw [F.gi h1]; exact E.1, by rw [F.gi h2]; exact E.2⟩
theorem mCu.fr {t : zTk} {X : List Nat} {Y : List (Nat × Nat)} (C : mCu h t) (F : fr X Y h h') (hY : [6, 7, 8, 9, 10].all (fun f => !(Y.contains (84, f))) = true) : mCu h' t := by
  simp only [List.all_cons, List.all_nil, and_true, Bool.and_eq_true] at hY
  obtain ⟨y6, y7, y8, y9, y10⟩ := hY
  exact ⟨by rw [F.gi (ni_of y6)]; exact C.1, by rw [F.gi (ni_of y7)]; exact C.2.1, by rw [F.gi (ni_of y8)]; exact C.2.2.1, fun w => by rw [F.gl (ni_of y10)]; exact C.2.2.2.1 w, fun w => by rw [F.gi (ni_of y9)]; exact C.2.2.2.2 w⟩
theorem mPs.fr {X : List Nat} {Y : List (Nat × Nat)} (P : mPs h n bs i) (F : fr X Y h h') (hX : 86 ∉ X) (hY : mRefs.all (fun f => !(Y.contains (84, f))) = true) (h3 : (84, 3) ∉ Y) (hY2 : [6, 7, 8, 9, 10].all (fun f => !(Y.contains (84, f))) = true) : mPs h' n bs i := ⟨P.1.fr F hY, P.2.1.fr F hX h3, P.2.2.fr F hY2⟩
theorem s12_isGood (M : mLay h) (H1 : gI h 84 4 = 0 → Q (some (.int 1)) h) (H0 : ¬ mGd h → Q (some (.int 0)) h) : zC mX12_isGood [.ref 84] h Q := nX12_isGood _ _ _ (bX12_isGood_0 _ _ _ ⟨M.o, H1, fun z => H0 (fun g => z g.1)⟩)
abbrev YE : List (Nat × Nat) := [(84, 4), (84, 5)]
theorem s12_failsG {k p : Nat} (M : mLay h) (hk : 0 < k ∧ k ≤ 5) (hg : gI h 84 4 = 0) (H : ∀ h', fr [] YE h h' → mFl h' (k, p) → Q none h') : zC mX12_fails [.ref 84, .int (nI k), .int (nI p)] h Q := by
  have hg' : gI h 84 4 = 0 := hg
  refine nX12_fails _ _ _ _ _ (bX12_fails_0 _ _ _ _ _ ⟨M.o, br_t (by rw [hg']; decide +kernel) (fun h3 e3 h5 e5 => ?_)⟩)
  have F3 : fr [] YE h h3 := by rw [e3]; exact fr_pF (by simp) M.o rfl rfl
  have F5 : fr [] YE h3 h5 := by rw [e5]; exact fr_pF (by simp) (F3.o M.o) rfl rfl
  exact H h5 (F3.tr F5) ⟨by rw [e5, gI_pF_n (Or.inr (by decide)), e3, gI_pF_s M.o (by decide)], by rw [e5, gI_pF_s (F3.o M.o) (by decide)], hk⟩
theorem s12_fails {k p : Nat} (M : mLay h) (hk : 0 < k ∧ k ≤ 5) (hg : mGd h) (H : ∀ h', fr [] YE h h' → mFl h' (k, p) → Q none h') : zC mX12_fails [.ref 84, .int (nI k), .int (nI p)] h Q := s12_failsG M hk hg.1 H
theorem s12_fails0 {e : Nat × Nat} {x y : Int32} (M : mLay h) (E : mFl h e) (H : Q none h) : zC mX12_fails [.ref 84, .int x, .int y] h Q := by
  refine nX12_fails _ _ _ _ _ (bX12_fails_0 _ _ _ _ _ ⟨M.o, br_f ?_ H⟩)
  rw [E.1]; exact nI_nle E.2.2.1 (by have := E.2.2.2; omega)
theorem mkk_lt {k : Nat} (hk : k < 32) : mkk k < 6 ∧ (mkk k = 3 ↔ k < 20) ∧ (mkk k = 2 ↔ k = 20) ∧ (mkk k = 4 ↔ k = 21) ∧ (mkk k = 5 ↔ 22 ≤ k ∧ k < 30) ∧ (mkk k = 0 ↔ k = 30) ∧ (mkk k = 1 ↔ k = 31) := by
  have : ∀ k, k < 32 → mkk k < 6 ∧ (mkk k = 3 ↔ k < 20) ∧ (mkk k = 2 ↔ k = 20) ∧ (mkk k = 4 ↔ k = 21) ∧ (mkk k = 5 ↔ 22 ≤ k ∧ k < 30) ∧ (mkk k = 0 ↔ k = 30) ∧ (mkk k = 1 ↔ k = 31) := by decide +kernel
  exact this k hk
theorem mCu.tk {t : zTk} (C : mCu h t) (ht : t.1 ≤ 31) (m : Nat) (hm : m < 6) : gI h 84 8 = nI m ↔ mkk t.1 = m := by
  rw [C.2.2.1]
  exact nI_eq (by have := (mkk_lt (k := t.1) (by omega)).1; omega) (by omega)
theorem s12_misplacedG (P : mPs h n bs i) (hg : gI h 84 4 = 0) (H : ∀ h', fr [] YE h h' → mFl h' (mpk 2 (tk n bs i)) → Q none h') : zC mX12_misplaced [.ref 84] h Q := by
  have b31 := (tk_k (n := n) (bs := bs) i).1
  have k31 := (mkk_lt (k := (tk n bs i).1) (by omega)).2.2.2.2.2.2
  refine nX12_misplaced _ _ _ (bX12_misplaced_0 _ _ _ ⟨P.1.o, ?_⟩)
  rw [nI_lit 1, P.2.2.tk b31 1 (by decide), k31, P.2.2.1]
  unfold mpk at H
  refine ⟨fun q => s12_failsG P.1 (by decide) hg (fun h' F E => ⟨rfl, H h' F ?_⟩), fun q => s12_failsG (k := 2) P.1 (by decide) hg (fun h' F E => ⟨rfl, H h' F ?_⟩)⟩
  · rw [if_pos q]; exact E
  · rw [if_neg q]; exact E
theorem s12_misplaced (P : mPs h n bs i) (hg : mGd h) (H : ∀ h', fr [] YE h h' → mFl h' (mpk 2 (tk n bs i)) → Q none h') : zC mX12_misplaced [.ref 84] h Q := s12_misplacedG P hg.1 H
theorem s12_misplaced0 {e : Nat × Nat} (M : mLay h) (E : mFl h e) (H : Q none h) : zC mX12_misplaced [.ref 84] h Q :=
  nX12_misplaced _ _ _ (bX12_misplaced_0 _ _ _ ⟨M.o, fun _ => s12_fails0 M E ⟨rfl, H⟩, fun _ => s12_fails0 M E ⟨rfl, H⟩⟩)
theorem s12_isWord {k : Nat} {w : Int64} (P : mPs h n bs i) (hk : k < 20) (hw : w = lN (wdM k)) (H1 : (tk n bs i).1 = k → Q (some (.int 1)) h) (H0 : (tk n bs i).1 ≠ k → Q (some (.int 0)) h) : zC mX12_isWord [.ref 84, .long w] h Q := by
  have b31 := (tk_k (n := n) (bs := bs) i).1
  have o := tk_o (n := n) (bs := bs) i
  refine nX12_isWord _ _ _ _ (bX12_isWord_0 _ _ _ _ ⟨P.1.o, ?_⟩)
  rw [nI_lit 3, P.2.2.tk b31 3 (by decide), (mkk_lt (k := (tk n bs i).1) (by omega)).2.1]
  refine ⟨fun q => ?_, fun q => H0 (by omega)⟩
  have ho := o.1 q
  rw [P.2.2.2.2.2.1 (by omega), lg_cmp_eq, hw, ← wdM_of ho, lN_eq6 (wdM_lt _ q) (wdM_lt _ hk)]
  refine ⟨fun z => H1 ?_, fun z => H0 (fun u => z (by rw [u]))⟩
  have inj : ∀ a, a < 20 → ∀ b, b < 20 → wdM a = wdM b → a = b := by
    have : ∀ a, a < 20 → ∀ b, b < 20 → [1851878757, 126943972648308, 508676040050, 24948, 131277443786868, 108170570395508, 26982, 1952998766, 1701606245, 422725119595, 24947, 1836020596, 26990, 112585980867444, 28530, 6385252, 7237492, 508676040051, 108217630616435, 26995].getD a 0 = [1851878757, 126943972648308, 508676040050, 24948, 131277443786868, 108170570395508, 26982, 1952998766, 1701606245, 422725119595, 24947, 1836020596, 26990, 112585980867444, 28530, 6385252, 7237492, 508676040051, 108217630616435, 26995].getD b 0 → a = b := by decide +kernel
    intro a ha b hb e
    rw [wdM_l, wdM_l] at e
    exact this a ha b hb e
  exact inj _ q _ hk z
theorem s12_stands {g : Nat} {w : Int32} (P : mPs h n bs i) (hg : g < 8) (hw : w = nI (sgL.getD g 0)) (H1 : (tk n bs i).1 = 22 + g → Q (some (.int 1)) h) (H0 : (tk n bs i).1 ≠ 22 + g → Q (some (.int 0)) h) : zC mX12_stands [.ref 84, .int w] h Q := by
  have b31 := (tk_k (n := n) (bs := bs) i).1
  have o := (tk_o (n := n) (bs := bs) i).2.2.2.2
  have n16 := P.2.1.2.1
  refine nX12_stands _ _ _ _ (bX12_stands_0 _ _ _ _ ⟨P.1.o, ?_⟩)
  rw [nI_lit 5, P.2.2.tk b31 5 (by decide), (mkk_lt (k := (tk n bs i).1) (by omega)).2.2.2.2.1, P.2.2.1]
  refine ⟨fun q => ?_, fun q => H0 (by omega)⟩
  obtain ⟨g', hg'⟩ : ∃ g', (tk n bs i).1 = 22 + g' := ⟨(tk n bs i).1 - 22, by omega⟩
  have og := o g' hg' (by omega)
  refine s12_sign P.1 P.2.1 (by omega) ⟨_, rfl, ?_⟩
  have lt : ∀ g, g < 8 → sgL.getD g 0 < 256 := by decide +kernel
  have inj : ∀ a, a < 8 → ∀ b, b < 8 → sgL.getD a 0 = sgL.getD b 0 → a = b := by decide +kernel
  have l1 := lt g' (by omega)
  have l2 := lt g hg
  rw [if_pos og.1, og.2, hw, nI_eq (by omega) (by omega)]
  refine ⟨fun z => H1 ?_, fun z => H0 (fun u => z ?_)⟩
  · have := inj _ (by omega) _ hg z
    omega
  · rw [show g' = g by omega]
theorem s12_goOnT (P : mPs h n bs i) (H : ∀ h', fr [] YL h h' → mPs h' n bs (i + 1) → Q none h') : zC mX12_goOn [.ref 84] h Q :=
  s12_goOn P.1 P.2.1 P.2.2.2.1 (tk_e i) (fun h' F C => H h' F ⟨mL_of P.1 F, P.2.1.fr F (by simp) (by simp), C⟩)
theorem s12_must {b : Int32} (P : mPs h n bs i) (hb : b = 0 ∨ b = 1) (H1 : gI h 84 4 = 0 → b = 1 → ∀ h', fr [] YL h h' → mPs h' n bs (i + 1) → Q none h') (H2 : gI h 84 4 = 0 → b = 0 → ∀ h', fr [] YE h h' → mFl h' (mpk 2 (tk n bs i)) → Q none h') (H0 : ¬ mGd h → Q none h) : zC mX12_must [.ref 84, .int b] h Q := by
  refine nX12_must _ _ _ _ (bX12_must_0 _ _ _ _ ⟨P.1.o, s12_isGood P.1 (fun g => ⟨_, rfl, br_f (by decide +kernel) ⟨fun q => ⟨P.1.o, s12_misplacedG P g (fun h' F E => ⟨rfl, H2 g q h' F E⟩)⟩, fun q => ⟨P.1.o, s12_goOnT P (fun h' F P' => ⟨rfl, H1 g ?_ h' F P'⟩)⟩⟩⟩) (fun g => ⟨_, rfl, br_t rfl (H0 g)⟩)⟩)
  rcases hb with hb | hb
  · exact absurd hb q
  · exact hb
/-- the tape is taken -/
theorem s12_takeTape (M : mLay h) (T : mTp h n bs) (H : ∀ h', fr [86] [(84, 2), (84, 3), (84, 4), (84, 5), (84, 6), (84, 7), (84, 8), (84, 9), (84, 10)] h h' → mPs h' n bs 0 → mGd h' → gI h' 84 5 = -1 → gI h' 84 2 = 0 → Q none h') : zC mX12_takeTape [.ref 84] h Q := by
  have n16 := T.2.1
  refine nX12_takeTape _ _ _ (bX12_takeTape_0 _ _ _ ⟨M.o, fun h2 e2 h4 e4 h6 e6 => ?_⟩)
  have F2 : fr [86] [(84, 2), (84, 3), (84, 4), (84, 5), (84, 6), (84, 7), (84, 8), (84, 9), (84, 10)] h h2 := by rw [e2]; exact fr_pF (by simp) M.o rfl rfl
  have o2 := F2.o M.o
  have F4 : fr [86] [(84, 2), (84, 3), (84, 4), (84, 5), (84, 6), (84, 7), (84, 8), (84, 9), (84, 10)] h2 h4 := by rw [e4]; exact fr_pF (by simp) o2 rfl rfl
  have o4 := F4.o o2
  have g24 : gI h4 84 2 = nI n := by rw [e4, gI_pF_n (Or.inr (by decide)), e2, gI_pF_n (Or.inr (by decide))]; exact T.1
  rw [g24] at e6
  have F6 : fr [86] [(84, 2), (84, 3), (84, 4), (84, 5), (84, 6), (84, 7), (84, 8), (84, 9), (84, 10)] h4 h6 := by rw [e6]; exact fr_pF (by simp) o4 rfl rfl
  have G6 := F2.tr (F4.tr F6)
  have a3 : gI h6 84 3 = nI n := by rw [e6, gI_pF_s o4 (by decide)]
  have a4 : gI h6 84 4 = 0 := by rw [e6, gI_pF_n (Or.inr (by decide)), e4, gI_pF_n (Or.inr (by decide)), e2, gI_pF_s M.o (by decide)]
  have a5 : gI h6 84 5 = -1 := by rw [e6, gI_pF_n (Or.inr (by decide)), e4, gI_pF_s o2 (by decide)]
  have go : ∀ (d k : Nat) (h0 : zH), k + d = n → fr [86] [] h6 h0 → (∀ j, j < k → aI h0 86 j &&& 255 = nI (bs j)) → zX mX12_takeTape 20 [.ref 84, .int (nI k)] [] h0 Q := by
    intro d
    induction d with
    | zero =>
      intro k h0 hk F A
      have : k = n := by omega
      subst this
      have FA := G6.tr (F.mo (X' := [86]) (Y' := [(84, 2), (84, 3), (84, 4), (84, 5), (84, 6), (84, 7), (84, 8), (84, 9), (84, 10)]) (by simp) (by simp))
      have M0 : mLay h0 := M.fr FA (by decide)
      refine bX12_takeTape_20 _ _ _ _ ⟨M0.o, br_t (by rw [F.gi (by simp), a3]; exact nI_le (Nat.le_refl _) (by omega)) (fun h3 e3 h5 e5 => ?_)⟩
      have F3 : fr [] [(84, 2), (84, 7)] h0 h3 := by rw [e3]; exact fr_pF (by simp) M0.o rfl rfl
      have F5 : fr [] [(84, 2), (84, 7)] h3 h5 := by rw [e5]; exact fr_pF (by simp) (F3.o M0.o) rfl rfl
      have F35 := F3.tr F5
      have M5 : mLay h5 := M0.fr F35 (by decide)
      have T5 : mTx h5 k bs := ⟨by rw [F35.gi (by simp), F.gi (by simp)]; exact a3, n16, fun j hj => ⟨by rw [F35.i (by simp)]; exact A j hj, (T.2.2 j hj).2⟩⟩
      refine s12_goOn (e := 0) M5 T5 (by rw [e5, gI_pF_s (F3.o M0.o) (by decide)]; rfl) (Nat.zero_le _) (fun h7 F7 C7 => ⟨rfl, ?_⟩)
      refine H h7 (FA.tr ((F35.mo (by simp) (by simp)).tr (F7.mo (by simp) (by simp)))) ⟨mL_of M5 F7, T5.fr F7 (by simp) (by simp), C7⟩ ?_ ?_ ?_
      · exact ⟨by rw [F7.gi (by simp), F35.gi (by simp), F.gi (by simp)]; exact a4, by rw [F7.gi (by simp), F35.gi (by simp), F.gi (by simp)]; exact a5⟩
      · rw [F7.gi (by simp), F35.gi (by simp), F.gi (by simp)]; exact a5
      · rw [F7.gi (by simp), e5, gI_pF_n (Or.inr (by decide)), e3, gI_pF_s M0.o (by decide)]
    | succ d ih =>
      intro k h0 hk F A
      have FA := G6.tr (F.mo (X' := [86]) (Y' := [(84, 2), (84, 3), (84, 4), (84, 5), (84, 6), (84, 7), (84, 8), (84, 9), (84, 10)]) (by simp) (by simp))
      have M0 : mLay h0 := M.fr FA (by decide)
      have ck : (nI k).toNatClampNeg = k := nI_clamp (by omega)
      refine bX12_takeTape_20 _ _ _ _ ⟨M0.o, br_f (by rw [F.gi (by simp), a3]; exact nI_ge (by omega) (by omega)) ⟨_, M0.r1, _, M0.r0, M0.k0, by rw [M0.n0]; exact vp_in_nI (by omega) (by decide), M0.k1, by rw [M0.n1]; exact vp_in_nI (by omega) (by decide), fun h14 e14 => ?_⟩⟩
      rw [ck] at e14
      rw [nI_1]
      refine ih (k + 1) h14 (by omega) (F.tr (by rw [e14]; exact fr_pI (by simp))) (fun j hj => ?_)
      by_cases z : j = k
      · rw [e14, z, aI_pI_s ⟨_, M0.k1⟩, by_n, FA.i (by simp)]; exact (T.2.2 k (by omega)).1
      · rw [e14, aI_pI_n (Or.inr z)]; exact A j (by omega)
  exact go n 0 h6 (by omega) fr.rf (fun j hj => absurd hj (Nat.not_lt_zero _))
end

/-! ===== what a token is; the class: looking at one ===== -/
section
variable {h h' : zH} {Q : Option Value → zH → Prop} {n c i : Nat} {bs : Nat → Nat}
theorem lexT_c {e : Nat} (P : zTk → Prop) (he : e ≤ n) (h30 : P (30, n, 0, n)) (h31 : ∀ a z, P (31, a, 0, z)) (hw : ∀ a z, a < z → (∀ k, k < z - a → isLn (bs (a + k)) = true) → z - a ≤ 8 → P (kwx (wv bs a (z - a)), a, wv bs a (z - a), z))
    (hn : ∀ a z, (∀ k, k < z - a → isDn (bs (a + k)) = true) → z - a ≤ 4 → P (21, a, nv bs a (z - a), z)) (hs : ∀ a, a < n → sgx (bs a) < 8 → P (22 + sgx (bs a), a, 0, a + 1)) : P (lexT n bs e) := by
  unfold lexT
  simp only []
  have an := rnn_le (p := fun i => isBn (bs i)) he
  generalize rnn n (fun i => isBn (bs i)) e = a at *
  split
  · exact h30
  · split
    · rename_i q1 q2
      have zn := rnn_gt (n := n) (p := fun i => isLn (bs i)) (by omega : a < n) q2
      have al : ∀ k, k < rnn n (fun i => isLn (bs i)) a - a → isLn (bs (a + k)) = true := fun k hk => rnn_all (n := n) (p := fun i => isLn (bs i)) (i := a) (k := a + k) (by omega) (by omega)
      generalize rnn n (fun i => isLn (bs i)) a = z at *
      split
      · exact h31 _ _
      · exact hw a z zn al (by omega)
    · split
      · have al : ∀ k, k < rnn n (fun i => isDn (bs i)) a - a → isDn (bs (a + k)) = true := fun k hk => rnn_all (n := n) (p := fun i => isDn (bs i)) (i := a) (k := a + k) (by omega) (by omega)
        generalize rnn n (fun i => isDn (bs i)) a = z at *
        split
        · exact h31 _ _
        · exact hn a z al (by omega)
      · split
        · exact hs a (by omega) (by assumption)
        · exact h31 _ _
/-- a token's facts -/
def tkO (n : Nat) (bs : Nat → Nat) (t : zTk) : Prop := (t.1 < 20 → ownL[t.1]? = some t.2.2.1) ∧ (t.1 = 20 → kwx t.2.2.1 = 20) ∧ (t.1 ≤ 20 → t.2.2.1 < 32 ^ 8) ∧ (t.1 = 21 → t.2.2.1 < 10000) ∧ ∀ g, t.1 = 22 + g → g < 8 → t.2.1 < n ∧ bs t.2.1 = sgL.getD g 0
theorem lexT_o {e : Nat} (he : e ≤ n) : tkO n bs (lexT n bs e) := by
  refine lexT_c (tkO n bs) he ?_ (fun a z => ?_) (fun a z az al h8 => ?_) (fun a z al h4 => ?_) (fun a an hs => ?_)
  · exact ⟨fun w => absurd (show (30 : Nat) < 20 from w) (by decide), fun w => absurd (show (30 : Nat) = 20 from w) (by decide), fun w => absurd (show (30 : Nat) ≤ 20 from w) (by decide), fun w => absurd (show (30 : Nat) = 21 from w) (by decide), fun g w hg => absurd (show (30 : Nat) = 22 + g from w) (by omega)⟩
  · exact ⟨fun w => absurd (show (31 : Nat) < 20 from w) (by decide), fun w => absurd (show (31 : Nat) = 20 from w) (by decide), fun w => absurd (show (31 : Nat) ≤ 20 from w) (by decide), fun w => absurd (show (31 : Nat) = 21 from w) (by decide), fun g w hg => absurd (show (31 : Nat) = 22 + g from w) (by omega)⟩
  · have k20 := @kwx_le (wv bs a (z - a))
    exact ⟨fun w => kwx_lt w, fun w => w, fun _ => Nat.lt_of_lt_of_le (wv_lt _ al) (Nat.pow_le_pow_right (by decide) h8), fun w => absurd (show kwx (wv bs a (z - a)) = 21 from w) (by omega), fun g w hg => absurd (show kwx (wv bs a (z - a)) = 22 + g from w) (by omega)⟩
  · exact ⟨fun w => absurd (show (21 : Nat) < 20 from w) (by decide), fun w => absurd (show (21 : Nat) = 20 from w) (by decide), fun w => absurd (show (21 : Nat) ≤ 20 from w) (by decide), fun _ => Nat.lt_of_lt_of_le (nv_lt _ al) (Nat.le_trans (Nat.pow_le_pow_right (by decide) h4) (by decide)), fun g w hg => absurd (show (21 : Nat) = 22 + g from w) (by omega)⟩
  · exact ⟨fun w => absurd (show 22 + sgx (bs a) < 20 from w) (by omega), fun w => absurd (show 22 + sgx (bs a) = 20 from w) (by omega), fun w => absurd (show 22 + sgx (bs a) ≤ 20 from w) (by omega), fun w => absurd (show 22 + sgx (bs a) = 21 from w) (by omega), fun g w hg => ⟨an, by rw [show g = sgx (bs a) from by have := (show 22 + sgx (bs a) = 22 + g from w); omega]; exact (sgx_at hs).symm⟩⟩
theorem tk_o (i : Nat) : tkO n bs (tk n bs i) := by
  cases i with
  | zero => exact lexT_o (Nat.zero_le n)
  | succ i => exact lexT_o (tk_e i)
/-- the reader's layout -/
def cRr (h : zH) : Prop := oK h 1 4 ∧ gR h 1 0 = some 2 ∧ (gR h 1 1 = some 8 ∧ iK h 8 0 ∧ aN h 8 = 1600) ∧ (gR h 1 2 = some 9 ∧ iK h 9 0 ∧ aN h 9 = 64) ∧ cTL h
theorem cRr.fr {X : List Nat} {Y : List (Nat × Nat)} (L : cRr h) (F : fr X Y h h') (hX : 4 ∉ X) (hY : [0, 1, 2, 3, 4].all (fun f => !(Y.contains (2, f))) = true) (h0 : (1, 0) ∉ Y) (h1 : (1, 1) ∉ Y) (h2 : (1, 2) ∉ Y) : cRr h' :=
  ⟨F.o L.1, by rw [F.gr h0]; exact L.2.1, ⟨by rw [F.gr h1]; exact L.2.2.1.1, F.ik L.2.2.1.2.1, by rw [F.n]; exact L.2.2.1.2.2⟩, ⟨by rw [F.gr h2]; exact L.2.2.2.1.1, F.ik L.2.2.2.1.2.1, by rw [F.n]; exact L.2.2.2.1.2.2⟩, L.2.2.2.2.fr F hX hY⟩
/-- what is looked at -/
def cCu (h : zH) (n : Nat) (bs : Nat → Nat) (c i : Nat) : Prop := cTk h n bs c ∧ i < c ∧ gI h 2 7 = nI (i + 1) ∧ gI h 2 8 = nI (tk n bs i).1 ∧ gI h 2 9 = nI (tk n bs i).2.1 ∧ ((tk n bs i).1 ≤ 21 → gL h 2 10 = lN (tk n bs i).2.2.1)
theorem cCu.fr {X : List Nat} {Y : List (Nat × Nat)} (C : cCu h n bs c i) (F : fr X Y h h') (h5 : 5 ∉ X) (h6 : 6 ∉ X) (h7 : 7 ∉ X) (hY : [6, 7, 8, 9, 10].all (fun f => !(Y.contains (2, f))) = true) : cCu h' n bs c i := by
  simp only [List.all_cons, List.all_nil, and_true, Bool.and_eq_true] at hY
  obtain ⟨y6, y7, y8, y9, y10⟩ := hY
  exact ⟨C.1.fr F h5 h6 h7 (ni_of y6), C.2.1, by rw [F.gi (ni_of y7)]; exact C.2.2.1, by rw [F.gi (ni_of y8)]; exact C.2.2.2.1, by rw [F.gi (ni_of y9)]; exact C.2.2.2.2.1, by rw [F.gl (ni_of y10)]; exact C.2.2.2.2.2⟩
abbrev YA : List (Nat × Nat) := [(2, 7), (2, 8), (2, 9), (2, 10)]
def nxi (c i : Nat) : Nat := if i + 1 < c then i + 1 else i
theorem s8_adv0 (L : cTL h) (K : cTk h n bs c) (g7 : gI h 2 7 = nI i) (hi : i < c) (H : ∀ h', fr [] YA h h' → cCu h' n bs c i → Q none h') : zC mX8_advance [.ref 2] h Q := by
  have c16 := K.2.1
  have ci : (nI i).toNatClampNeg = i := nI_clamp (by omega)
  refine nX8_advance _ _ _ (bX8_advance_0 _ _ _ ⟨L.1.1, ?_⟩)
  rw [g7, K.2.2.1]
  refine br_f (nI_pos (by omega)) (br_f (nI_ge hi (by omega)) ⟨_, L.2.2.1.1, L.2.2.1.2.1, br_f (by rw [L.2.2.1.2.2]; exact nI_ge (b := 1601) (by omega) (by decide)) ⟨by rw [L.2.2.1.2.2]; exact vp_in_nI (by omega) (by decide), fun h8 e8 => ?_⟩⟩)
  rw [ci] at e8
  have A := K.2.2.2.2.2 i hi
  have F8 : fr [] YA h h8 := by rw [e8]; exact fr_pF (by simp) L.1.1 rfl rfl
  have L8 := L.fr F8 (by simp) (by decide)
  have g78 : gI h8 2 7 = nI i := by rw [e8, gI_pF_n (Or.inr (by decide))]; exact g7
  refine ⟨_, L8.2.2.2.1.1, L8.2.2.2.1.2.1, ?_⟩
  rw [g78, ci]
  refine ⟨by rw [L8.2.2.2.1.2.2]; exact vp_in_nI (by omega) (by decide), fun h14 e14 => ?_⟩
  have F14 : fr [] YA h8 h14 := by rw [e14]; exact fr_pF (by simp) L8.1.1 rfl rfl
  have L14 := L8.fr F14 (by simp) (by decide)
  have g714 : gI h14 2 7 = nI i := by rw [e14, gI_pF_n (Or.inr (by decide))]; exact g78
  refine ⟨_, L14.2.2.2.2.1, L14.2.2.2.2.2.1, ?_⟩
  rw [g714, ci]
  refine ⟨by rw [L14.2.2.2.2.2.2]; exact vp_in_nI (by omega) (by decide), fun h21 e21 => ?_⟩
  have F21 : fr [] YA h14 h21 := by rw [e21]; exact fr_pF (by simp) L14.1.1 rfl rfl
  have L21 := L14.fr F21 (by simp) (by decide)
  have g721 : gI h21 2 7 = nI i := by rw [e21, gI_pF_n (Or.inr (by decide))]; exact g714
  rw [g721, nI_1]
  intro h26 e26
  have F26 : fr [] YA h21 h26 := by rw [e26]; exact fr_pF (by simp) L21.1.1 rfl rfl
  have FF := F8.tr (F14.tr (F21.tr F26))
  refine H h26 FF ⟨K.fr FF (by simp) (by simp) (by simp) (by simp), hi, by rw [e26, gI_pF_s L21.1.1 (by decide)], ?_, ?_, fun w => ?_⟩
  · rw [e26, gI_pF_n (Or.inr (by decide)), e21, gI_pF_n (Or.inr (by decide)), e14, gI_pF_n (Or.inr (by decide)), e8, gI_pF_s L.1.1 (by decide)]; exact A.1
  · rw [e26, gI_pF_n (Or.inr (by decide)), e21, gI_pF_n (Or.inr (by decide)), e14, gI_pF_s L8.1.1 (by decide), F8.i (by simp)]; exact A.2.1
  · rw [e26, gL_pF_n (Or.inr (by decide)), e21, gL_pF_s L14.1.1 (by decide), F14.l (by simp), F8.l (by simp)]; exact A.2.2 w
theorem s8_advance (L : cTL h) (C : cCu h n bs c i) (H : ∀ h', fr [] YA h h' → cCu h' n bs c (nxi c i) → Q none h') : zC mX8_advance [.ref 2] h Q := by
  unfold nxi at H
  have c16 := C.1.2.1
  by_cases w : i + 1 < c
  · rw [if_pos w] at H
    exact s8_adv0 L C.1 C.2.2.1 w H
  · rw [if_neg w] at H
    have ic := C.2.1
    refine nX8_advance _ _ _ (bX8_advance_0 _ _ _ ⟨L.1.1, ?_⟩)
    rw [C.2.2.1, C.1.2.2.1]
    exact br_f (nI_pos (by omega)) (br_t (nI_le (by omega) (by omega)) (H h fr.rf C))
theorem s8_rewind (L : cTL h) (T : cTp h n bs) (H : ∀ h' c, fr [5, 6, 7] [(2, 6), (2, 7), (2, 8), (2, 9), (2, 10)] h h' → cCu h' n bs c 0 → Q none h') : zC mX8_rewind [.ref 2] h Q := by
  refine nX8_rewind _ _ _ (bX8_rewind_0 _ _ _ ⟨L.1.1, s8_split L T (fun h2 c F2 K2 => ⟨rfl, F2.o L.1.1, fun h4 e4 => ?_⟩)⟩)
  have G2 : fr [5, 6, 7] [(2, 6), (2, 7), (2, 8), (2, 9), (2, 10)] h h2 := F2.mo (by simp) (by simp)
  have F4 : fr [] [(2, 7)] h2 h4 := by rw [e4]; exact fr_pF (by simp) (F2.o L.1.1) rfl rfl
  have G4 := G2.tr (F4.mo (X' := [5, 6, 7]) (Y' := [(2, 6), (2, 7), (2, 8), (2, 9), (2, 10)]) (by simp) (by simp))
  refine s8_adv0 (L.fr G4 (by simp) (by decide)) (K2.fr F4 (by simp) (by simp) (by simp) (by simp)) (by rw [e4, gI_pF_s (F2.o L.1.1) (by decide)]; rfl) K2.1 (fun h6 F6 C6 => ⟨rfl, H h6 c (G4.tr (F6.mo (by simp) (by simp))) C6⟩)
/-- the fault of a token that can't stand, and of another ground -/
def mpk (k : Nat) (t : zTk) : Nat × Nat := (if t.1 = 31 then 1 else k, t.2.1)
/-- the class's fault -/
def cFl (h : zH) (e : Nat × Nat) : Prop := gI h 1 12 = nI e.1 ∧ gI h 1 13 = nI e.2 ∧ 0 < e.1 ∧ e.1 ≤ 5
abbrev YF : List (Nat × Nat) := [(1, 12), (1, 13)]
theorem cFl.ne {e : Nat × Nat} (E : cFl h e) : ¬ gI h 1 12 = 0 := by rw [E.1]; exact nI_ne0 E.2.2.1 (by have := E.2.2.2; omega)
theorem cFl.fr {X : List Nat} {Y : List (Nat × Nat)} {e : Nat × Nat} (E : cFl h e) (F : fr X Y h h') (h1 : (1, 12) ∉ Y) (h2 : (1, 13) ∉ Y) : cFl h' e := ⟨by rw [F.gi h1]; exact E.1, by rw [F.gi h2]; exact E.2.1, E.2.2⟩
theorem s4_fail {k : Nat} (L : cRr h) (C : cCu h n bs c i) (hk : 0 < k ∧ k ≤ 5) (H1 : gI h 1 12 = 0 → ∀ h', fr [] YF h h' → cFl h' (mpk k (tk n bs i)) → Q (some (.int 0)) h') (H0 : ¬ gI h 1 12 = 0 → Q (some (.int 0)) h) : zC mX4_fail [.ref 1, .int (nI k)] h Q := by
  have b31 := (tk_k (n := n) (bs := bs) i).1
  have go : ∀ (kk : Nat) (h6 : zH), 0 < kk ∧ kk ≤ 5 → kk = (mpk k (tk n bs i)).1 → gI h 1 12 = 0 → h6 = pF h 1 12 (.int (nI kk)) → ∃ a9 : Nat, gR h6 1 0 = some a9 ∧ (oK h6 a9 8 ∧ (∀ h11 : zH, h11 = (pF h6 1 13 (.int (gI h6 a9 9))) → (Q (some (.int (0 : Int32))) h11))) := fun kk h6 hk1 hk2 q e6 => by
    have F6 : fr [] YF h h6 := by rw [e6]; exact fr_pF (by simp) L.1 rfl rfl
    refine ⟨2, by rw [F6.gr (by simp)]; exact L.2.1, F6.o L.2.2.2.2.1.1, fun h11 e11 => ?_⟩
    have F11 : fr [] YF h6 h11 := by rw [e11]; exact fr_pF (by simp) (F6.o L.1) rfl rfl
    refine H1 q h11 (F6.tr F11) ⟨by rw [e11, gI_pF_n (Or.inr (by decide)), e6, gI_pF_s L.1 (by decide), hk2], by rw [e11, gI_pF_s (F6.o L.1) (by decide), F6.gi (by simp)]; exact C.2.2.2.2.1, by rw [← hk2]; exact hk1.1, by rw [← hk2]; exact hk1.2⟩
  refine nX4_fail _ _ _ _ (bX4_fail_0 _ _ _ _ ⟨L.1, fun q => ⟨_, L.2.1, L.2.2.2.2.1.1, ?_⟩, H0⟩)
  rw [C.2.2.2.1, nI_lit 31, nI_eq (by omega) (by decide)]
  refine ⟨fun w h6 e6 => go 1 h6 (by decide) (by unfold mpk; rw [if_pos w]) q e6, fun w h6 e6 => go k h6 hk (by unfold mpk; rw [if_neg w]) q e6⟩
theorem s4_take {κ : Nat} (L : cRr h) (C : cCu h n bs c i) (hκ : κ < 2 ^ 31) (H1 : gI h 1 12 = 0 → (tk n bs i).1 = κ → ∀ h', fr [] YA h h' → cCu h' n bs c (nxi c i) → Q (some (.int 1)) h') (H2 : gI h 1 12 = 0 → (tk n bs i).1 ≠ κ → ∀ h', fr [] YF h h' → cFl h' (mpk 2 (tk n bs i)) → Q (some (.int 0)) h') (H0 : ¬ gI h 1 12 = 0 → Q (some (.int 0)) h) : zC mX4_take [.ref 1, .int (nI κ)] h Q := by
  have b31 := (tk_k (n := n) (bs := bs) i).1
  refine nX4_take _ _ _ _ (bX4_take_0 _ _ _ _ ⟨L.1, fun q => ⟨_, L.2.1, L.2.2.2.2.1.1, ?_⟩, fun q => s4_fail (k := 2) L C (by decide) (fun w => absurd w q) (fun _ => ⟨_, rfl, Or.inl rfl, H0 q⟩)⟩)
  rw [C.2.2.2.1, nI_eq (by omega) hκ]
  exact ⟨fun w => s8_advance L.2.2.2.2 C (fun h' F' C' => ⟨rfl, H1 q w h' F' C'⟩), fun w => s4_fail (k := 2) L C (by decide) (fun _ h' F' E' => ⟨_, rfl, Or.inl rfl, H2 q w h' F' E'⟩) (fun u => absurd q u)⟩
end

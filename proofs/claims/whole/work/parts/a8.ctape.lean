/-! ===== the tape's constructor: the own words out of the text ===== -/
section
set_option maxRecDepth 20000
variable {h h1 h' : zH} {Q : Option Value → zH → Prop} {l m : List zE} {n P a b c j k ci q t : Nat} {fs : List Value} {v : Value} {e : zE}
theorem hA_lk {f : Nat → Int64} (A : hA h n l m P) (ea : a = n + j) (ha : m[j]? = some (zL q f)) : lK h a ∧ aN h a = q := by
  obtain ⟨x, y⟩ := hA_at A ha
  subst ea
  exact ⟨⟨by rw [A.2.1]; omega, q, f, x⟩, by simp only [aN, x]⟩
theorem hA_rk {f : Nat → Option Nat} (A : hA h n l m P) (ea : a = n + j) (ha : m[j]? = some (zR t q f)) : rK h a t ∧ aN h a = q := by
  obtain ⟨x, y⟩ := hA_at A ha
  subst ea
  exact ⟨⟨by rw [A.2.1]; omega, q, f, x⟩, by simp only [aN, x]⟩
/-- behind k letters: the words told, the word so far -/
def tpW : Nat → List Nat × Nat
  | 0 => ([], 0)
  | k + 1 => if wch k = 32 then ((tpW k).1 ++ [(tpW k).2], 0) else ((tpW k).1, 32 * (tpW k).2 + (wch k - 96))
theorem tpW_99 : tpW 99 = (ownL, 0) := by decide +kernel
theorem tpW_len : ∀ k, k < 99 → (tpW k).1.length < 20 := by decide +kernel
theorem wch_32 : ∀ k, k < 99 → (nI (wch k) = 32 ↔ wch k = 32) := by decide +kernel
theorem wch_ln : ∀ k, k < 99 → wch k ≠ 32 → isLn (wch k) = true := by decide +kernel
theorem s8_words (d : Nat) : ∀ (k : Nat) (h : zH), k + d = 99 → hA h n l (R8 n (tpW k).1) P → (∀ h', hA h' n l (R8 n ownL) P → Q none h') → zX mX8_init 55 [.ref n, .int (nI (tpW k).1.length), .long (lN (tpW k).2), .float 0, .int (nI k), .float 0] [] h Q := by
  induction d with
  | zero =>
    intro k h hk A H
    obtain rfl : k = 99 := by omega
    rw [tpW_99] at A
    refine bX8_init_55 _ _ _ _ _ _ (sJ_length (i := 0) (by decide) ⟨_, rfl, fun _ => H h A, fun y => absurd ?_ y⟩)
    exact nI_le (Nat.le_refl 99) (by decide)
  | succ d ih =>
    intro k h hk A H
    have hk9 : k < 99 := by omega
    have l20 := tpW_len k hk9
    refine bX8_init_55 _ _ _ _ _ _ (sJ_length (i := 0) (by decide) ⟨_, rfl, fun y => absurd y ?_, fun _ => sJ0_charAt hk9 ⟨_, rfl, fun y => ?_, fun y => ?_⟩⟩)
    · exact nI_ge (b := 99) hk9 (by decide)
    · have y1 := (wch_32 k hk9).mp y
      have et : tpW (k + 1) = ((tpW k).1 ++ [(tpW k).2], 0) := by show (if wch k = 32 then _ else _) = _; rw [if_pos y1]
      obtain ⟨L1, L2⟩ := hA_lk (j := 2) (a := n + 2) A rfl rfl
      refine ⟨hA_o (j := 0) A rfl rfl rfl, n + 2, hA_gr (j := 0) A rfl rfl rfl, L1, fun z => absurd z ?_, fun _ => ⟨by rw [L2]; exact vp_in_nI l20 (by decide), fun h12 e12 => ?_⟩⟩
      · rw [L2]; exact nI_ge l20 (by decide)
      · have A2 := hA_l (j := 2) e12 A rfl rfl
        rw [nI_clamp (by omega), wdR_s] at A2
        have r := ih (k + 1) h12 (by omega) (by rw [et]; exact A2) H
        rw [et] at r
        rw [nI_1, nI_1]
        rw [List.length_append] at r
        exact r
    · have y1 : wch k ≠ 32 := fun z => y ((wch_32 k hk9).mpr z)
      have et : tpW (k + 1) = ((tpW k).1, 32 * (tpW k).2 + (wch k - 96)) := by show (if wch k = 32 then _ else _) = _; rw [if_neg y1]
      refine s8_withLetter (wch_ln k hk9 y1) ⟨_, rfl, ?_⟩
      have r := ih (k + 1) h (by omega) (by rw [et]; exact A) H
      rw [et] at r
      rw [nI_1]
      exact r
theorem s8_init (A : hA h n l [zO 8 [.null, .null, .null, .null, .null, .int 0, .int 0, .int 0, .int 0, .int 0, .long 0]] P) (ea : a = n) (H : ∀ h', hA h' n l (R8 n ownL) P → Q none h') : zC mX8_init [.ref a] h Q := by
  rw [ea]
  refine nX8_init _ _ _ (bX8_init_0 _ _ _ (fun h1 e1 => ?_))
  have A1 : hA h1 n l [zO 8 [.null, .null, .null, .null, .null, .int 0, .int 0, .int 0, .int 0, .int 0, .long 0], zI 0 1600 (fun _ => 0)] P := (have z := hA_n e1 A; z)
  refine ⟨hA_o (j := 0) A1 rfl rfl rfl, fun h2 e2 => ?_⟩
  have A2 : hA h2 n l [zO 8 [.ref (n + 1), .null, .null, .null, .null, .int 0, .int 0, .int 0, .int 0, .int 0, .long 0], zI 0 1600 (fun _ => 0)] P := (have z := hA_q (j := 0) (c := n + 1) e2 A1 rfl rfl A.2.1; z)
  intro h3 e3
  have A3 : hA h3 n l [zO 8 [.ref (n + 1), .null, .null, .null, .null, .int 0, .int 0, .int 0, .int 0, .int 0, .long 0], zI 0 1600 (fun _ => 0), zL 20 (fun _ => 0)] P := (have z := hA_n e3 A2; z)
  intro h4 e4
  have A4 : hA h4 n l [zO 8 [.ref (n + 1), .ref (n + 2), .null, .null, .null, .int 0, .int 0, .int 0, .int 0, .int 0, .long 0], zI 0 1600 (fun _ => 0), zL 20 (fun _ => 0)] P := (have z := hA_q (j := 0) (c := n + 2) e4 A3 rfl rfl A2.2.1; z)
  intro h5 e5
  have A5 : hA h5 n l [zO 8 [.ref (n + 1), .ref (n + 2), .null, .null, .null, .int 0, .int 0, .int 0, .int 0, .int 0, .long 0], zI 0 1600 (fun _ => 0), zL 20 (fun _ => 0), zI 0 1601 (fun _ => 0)] P := (have z := hA_n e5 A4; z)
  intro h6 e6
  have A6 : hA h6 n l [zO 8 [.ref (n + 1), .ref (n + 2), .ref (n + 3), .null, .null, .int 0, .int 0, .int 0, .int 0, .int 0, .long 0], zI 0 1600 (fun _ => 0), zL 20 (fun _ => 0), zI 0 1601 (fun _ => 0)] P := (have z := hA_q (j := 0) (c := n + 3) e6 A5 rfl rfl A4.2.1; z)
  intro h7 e7
  have A7 : hA h7 n l [zO 8 [.ref (n + 1), .ref (n + 2), .ref (n + 3), .null, .null, .int 0, .int 0, .int 0, .int 0, .int 0, .long 0], zI 0 1600 (fun _ => 0), zL 20 (fun _ => 0), zI 0 1601 (fun _ => 0), zI 0 1601 (fun _ => 0)] P := (have z := hA_n e7 A6; z)
  intro h8 e8
  have A8 : hA h8 n l [zO 8 [.ref (n + 1), .ref (n + 2), .ref (n + 3), .ref (n + 4), .null, .int 0, .int 0, .int 0, .int 0, .int 0, .long 0], zI 0 1600 (fun _ => 0), zL 20 (fun _ => 0), zI 0 1601 (fun _ => 0), zI 0 1601 (fun _ => 0)] P := (have z := hA_q (j := 0) (c := n + 4) e8 A7 rfl rfl A6.2.1; z)
  intro h9 e9
  have A9 : hA h9 n l [zO 8 [.ref (n + 1), .ref (n + 2), .ref (n + 3), .ref (n + 4), .null, .int 0, .int 0, .int 0, .int 0, .int 0, .long 0], zI 0 1600 (fun _ => 0), zL 20 (fun _ => 0), zI 0 1601 (fun _ => 0), zI 0 1601 (fun _ => 0), zL 1601 (fun _ => 0)] P := (have z := hA_n e9 A8; z)
  intro h10 e10
  have A10 : hA h10 n l [zO 8 [.ref (n + 1), .ref (n + 2), .ref (n + 3), .ref (n + 4), .ref (n + 5), .int 0, .int 0, .int 0, .int 0, .int 0, .long 0], zI 0 1600 (fun _ => 0), zL 20 (fun _ => 0), zI 0 1601 (fun _ => 0), zI 0 1601 (fun _ => 0), zL 1601 (fun _ => 0)] P := (have z := hA_q (j := 0) (c := n + 5) e10 A9 rfl rfl A8.2.1; z)
  have Z : hA h10 n l (R8 n []) P := by unfold R8; rw [wdR_0]; exact A10
  exact s8_words 99 0 h10 rfl Z H
def R4 (n : Nat) : List zE := [zO 4 [.ref (n + 1), .ref (n + 7), .ref (n + 8), .null, .int 0, .int 0, .int 0, .int 0, .int 0, .int 0, .int 0, .int 0, .int 0, .int (-1)]] ++ R8 (n + 1) ownL ++ [zI 0 1600 (fun _ => 0), zI 0 64 (fun _ => 0)]
theorem s4_init (A : hA h n l [zO 4 [.null, .null, .null, .null, .int 0, .int 0, .int 0, .int 0, .int 0, .int 0, .int 0, .int 0, .int 0, .int 0]] P) (ea : a = n) (H : ∀ h', hA h' n l (R4 n) P → Q none h') : zC mX4_init [.ref a] h Q := by
  rw [ea]
  refine nX4_init _ _ _ (bX4_init_0 _ _ _ (fun h1 e1 => ?_))
  have A1 : hA h1 n l [zO 4 [.null, .null, .null, .null, .int 0, .int 0, .int 0, .int 0, .int 0, .int 0, .int 0, .int 0, .int 0, .int 0], zO 8 [.null, .null, .null, .null, .null, .int 0, .int 0, .int 0, .int 0, .int 0, .long 0]] P := hA_n e1 A
  refine s8_init (hA_in (m := [zO 4 [.null, .null, .null, .null, .int 0, .int 0, .int 0, .int 0, .int 0, .int 0, .int 0, .int 0, .int 0, .int 0]]) A1 rfl) A.2.1 (fun h2 B2 => ⟨rfl, ?_⟩)
  have A2 : hA h2 n l (zO 4 [.null, .null, .null, .null, .int 0, .int 0, .int 0, .int 0, .int 0, .int 0, .int 0, .int 0, .int 0, .int 0] :: (R8 (n + 1) ownL)) P := (have z := hA_out (m := [zO 4 [.null, .null, .null, .null, .int 0, .int 0, .int 0, .int 0, .int 0, .int 0, .int 0, .int 0, .int 0, .int 0]]) B2 rfl A.1; z)
  refine ⟨hA_o (j := 0) A2 rfl rfl rfl, fun h4 e4 h5 e5 h6 e6 h7 e7 h8 e8 h9 e9 => ?_⟩
  have A4 : hA h4 n l (zO 4 [.ref (n + 1), .null, .null, .null, .int 0, .int 0, .int 0, .int 0, .int 0, .int 0, .int 0, .int 0, .int 0, .int 0] :: (R8 (n + 1) ownL)) P := (have z := hA_q (j := 0) (c := n + 1) e4 A2 rfl rfl A.2.1; z)
  have A5 : hA h5 n l (zO 4 [.ref (n + 1), .null, .null, .null, .int 0, .int 0, .int 0, .int 0, .int 0, .int 0, .int 0, .int 0, .int 0, .int 0] :: (R8 (n + 1) ownL ++ [zI 0 1600 (fun _ => 0)])) P := (have z := hA_n e5 A4; z)
  have A6 : hA h6 n l (zO 4 [.ref (n + 1), .ref (n + 7), .null, .null, .int 0, .int 0, .int 0, .int 0, .int 0, .int 0, .int 0, .int 0, .int 0, .int 0] :: (R8 (n + 1) ownL ++ [zI 0 1600 (fun _ => 0)])) P := (have z := hA_q (j := 0) (c := n + 7) e6 A5 rfl rfl A4.2.1; z)
  have A7 : hA h7 n l (zO 4 [.ref (n + 1), .ref (n + 7), .null, .null, .int 0, .int 0, .int 0, .int 0, .int 0, .int 0, .int 0, .int 0, .int 0, .int 0] :: (R8 (n + 1) ownL ++ [zI 0 1600 (fun _ => 0), zI 0 64 (fun _ => 0)])) P := (have z := hA_n e7 A6; z)
  have A8 : hA h8 n l (zO 4 [.ref (n + 1), .ref (n + 7), .ref (n + 8), .null, .int 0, .int 0, .int 0, .int 0, .int 0, .int 0, .int 0, .int 0, .int 0, .int 0] :: (R8 (n + 1) ownL ++ [zI 0 1600 (fun _ => 0), zI 0 64 (fun _ => 0)])) P := (have z := hA_q (j := 0) (c := n + 8) e8 A7 rfl rfl A6.2.1; z)
  have A9 : hA h9 n l (zO 4 [.ref (n + 1), .ref (n + 7), .ref (n + 8), .null, .int 0, .int 0, .int 0, .int 0, .int 0, .int 0, .int 0, .int 0, .int 0, .int (-1)] :: (R8 (n + 1) ownL ++ [zI 0 1600 (fun _ => 0), zI 0 64 (fun _ => 0)])) P := (have z := hA_p (j := 0) e9 A8 rfl rfl; z)
  exact H _ A9
end

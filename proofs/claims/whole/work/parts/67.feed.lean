/-! ===== the tape: fed bytes ===== -/
section
variable {h h' : zH} {Q : Option Value → zH → Prop}
def bbI (x : Int32) (k : Nat) : Nat := x.toBitVec.toNat / 2 ^ (24 - 8 * k) % 256
theorem bb_lt {x : Int32} {k : Nat} : bbI x k < 256 := Nat.mod_lt _ (by decide)
theorem by_sx (y : Int32) : y.toInt8.toInt32.toBitVec.toNat % 256 = y.toBitVec.toNat % 256 := by
  have e : y.toInt8.toInt32.toBitVec = (y.toBitVec.setWidth 8).signExtend 32 := by simp; rw [BitVec.signExtend_eq_setWidth_of_le y.toBitVec (v := 8) (by decide)]
  rw [e]
  apply Nat.eq_of_testBit_eq
  intro i
  rw [show (256 : Nat) = 2 ^ 8 from rfl, Nat.testBit_mod_two_pow, Nat.testBit_mod_two_pow]
  by_cases w : i < 8
  · have : ((y.toBitVec.setWidth 8).signExtend 32).getLsbD i = y.toBitVec.getLsbD i := by
      rw [BitVec.getLsbD_signExtend]
      simp [w]; omega
    simp only [BitVec.getLsbD] at this
    rw [this]
  · simp [w]
theorem by_shr {x s : Int32} {k : Nat} (hk : k = 0 ∨ k = 8 ∨ k = 16 ∨ k = 24) (hs : (s.toBitVec.smod 32).toNat = k) : (x >>> s).toBitVec.toNat % 256 = x.toBitVec.toNat / 2 ^ k % 256 := by
  have e := pk_shr x s k hs
  have a1 : (x >>> s).toInt = (x >>> s).toBitVec.toInt := rfl
  have a2 : x.toInt = x.toBitVec.toInt := rfl
  rw [a1, a2, Int.shiftRight_eq_div_pow] at e
  rw [BitVec.toInt_eq_toNat_cond, BitVec.toInt_eq_toNat_cond] at e
  have l1 := (x >>> s).toBitVec.isLt
  have l2 := x.toBitVec.isLt
  generalize (x >>> s).toBitVec.toNat = a at *
  generalize x.toBitVec.toNat = b at *
  rcases hk with rfl | rfl | rfl | rfl <;> (simp only [Nat.reducePow] at *; split at e <;> split at e <;> omega)
/-- the class's byte -/
theorem by_c {x : Int32} {k : Nat} (hk : k < 4) : ((x.toUInt32 >>> ((nI (24 - 8 * k)).toUInt32 &&& Int32.toUInt32 31)).toInt32) &&& (255 : Int32) = nI (bbI x k) := by
  have hs : (((nI (24 - 8 * k)).toUInt32 &&& Int32.toUInt32 31).toBitVec % 32).toNat = 24 - 8 * k := by
    have : ∀ k, k < 4 → (((nI (24 - 8 * k)).toUInt32 &&& Int32.toUInt32 31).toBitVec % 32).toNat = 24 - 8 * k := by decide +kernel
    exact this k hk
  rw [pk_and _ 8 (by decide +kernel), pk_ushr x _ _ hs]; rfl
/-- the model's byte -/
theorem by_m {x : Int32} {j k : Nat} (hj : j < 5) (hk : k < 4) : (vp_nar .byte ((x >>> (((24 : Int32) - ((8 : Int32) * (nI (4 * j + k) &&& (3 : Int32)))) &&& 31)).toInt8.toInt32)) &&& (255 : Int32) = nI (bbI x k) := by
  have hs : (((((24 : Int32) - ((8 : Int32) * (nI (4 * j + k) &&& (3 : Int32)))) &&& 31)).toBitVec.smod 32).toNat = 24 - 8 * k := by
    have : ∀ j, j < 5 → ∀ k, k < 4 → (((((24 : Int32) - ((8 : Int32) * (nI (4 * j + k) &&& (3 : Int32)))) &&& 31)).toBitVec.smod 32).toNat = 24 - 8 * k := by decide +kernel
    exact this j hj k hk
  rw [pk_vb, pk_and _ 8 (by decide +kernel), show (2 : Nat) ^ 8 = 256 from rfl, by_sx, by_shr (by omega) hs]; rfl
theorem by_n (x : Int32) : vp_nar .byte x &&& 255 = x &&& 255 := by
  rw [vp_nar_byte, pk_and _ 8 (by decide +kernel), pk_and _ 8 (by decide +kernel), show (2 : Nat) ^ 8 = 256 from rfl, by_sx]
/-- the tapes -/
def cTp (h : zH) (n : Nat) (bs : Nat → Nat) : Prop := gI h 2 5 = nI n ∧ n ≤ 1600 ∧ ∀ i, i < n → aI h 3 i = nI (bs i) ∧ bs i < 256
def cTpL (h : zH) : Prop := oK h 2 8 ∧ gR h 2 0 = some 3 ∧ iK h 3 0 ∧ aN h 3 = 1600
def mTp (h : zH) (n : Nat) (bs : Nat → Nat) : Prop := gI h 84 2 = nI n ∧ n ≤ 1600 ∧ ∀ i, i < n → aI h 85 i &&& 255 = nI (bs i) ∧ bs i < 256
def ad4 (n : Nat) (bs : Nat → Nat) (x : Int32) : Nat → Nat := fun i => if i < n then bs i else bbI x (i - n)
theorem s8_add {n : Nat} {bs : Nat → Nat} {x : Int32} (L : cTpL h) (T : cTp h n bs) (hn : n + 4 ≤ 1600) (H : ∀ h', fr [3] [(2, 5)] h h' → cTpL h' → cTp h' (n + 4) (ad4 n bs x) → Q none h') : zC mX8_add [.ref 2, .int x] h Q := by
  have go : ∀ (m k : Nat) (h0 : zH), k + m = 4 → fr [3] [(2, 5)] h h0 → cTp h0 (n + k) (ad4 n bs x) → zX mX8_add 3 [.ref 2, .int x, .int (nI (24 + 8 - 8 * k) - 8)] [] h0 Q := by
    intro m
    induction m with
    | zero =>
      intro k h0 hk F T0
      have : k = 4 := by omega
      subst this
      have G : cTpL h0 := ⟨F.o L.1, by rw [F.gr (by simp)]; exact L.2.1, F.ik L.2.2.1, by rw [F.n]; exact L.2.2.2⟩
      exact bX8_add_3 _ _ _ _ _ (br_t (by decide +kernel) (H h0 F G T0))
    | succ m ih =>
      intro k h0 hk F T0
      have hk4 : k < 4 := by omega
      have G : cTpL h0 := ⟨F.o L.1, by rw [F.gr (by simp)]; exact L.2.1, F.ik L.2.2.1, by rw [F.n]; exact L.2.2.2⟩
      have e1 : nI (24 + 8 - 8 * k) - 8 = nI (24 - 8 * k) := by rw [show (8 : Int32) = nI 8 from rfl, nI_sub (by omega)]; congr 1; omega
      rw [e1]
      refine bX8_add_3 _ _ _ _ _ (br_f (nI_pos (by omega)) ⟨G.1, _, G.2.1, ?_⟩)
      rw [T0.1, by_c hk4]
      refine s11_putN G.2.2.1 G.2.2.2 (by omega) (by decide) (fun h4 e4 => ⟨rfl, ?_⟩)
      have F4 : fr [3] [(2, 5)] h0 h4 := by rw [e4]; exact fr_pI (by simp)
      refine ⟨F4.o G.1, fun h6 e6 => ?_⟩
      have F6 : fr [3] [(2, 5)] h4 h6 := by rw [e6]; exact fr_pF (by simp) (F4.o G.1) rfl rfl
      have g4 : gI h4 2 5 = nI (n + k) := by rw [e4, gI_pI]; exact T0.1
      have e2 : nI (24 - 8 * k) + (-8) = nI (24 + 8 - 8 * (k + 1)) - 8 := by
        have : ∀ k, k < 4 → nI (24 - 8 * k) + (-8) = nI (24 + 8 - 8 * (k + 1)) - 8 := by decide +kernel
        exact this k hk4
      rw [e2]
      refine ih (k + 1) h6 (by omega) (F.tr (F4.tr F6)) ⟨by rw [e6, gI_pF_s (F4.o G.1) (by decide), g4, nI_1]; rfl, by omega, fun i hi => ?_⟩
      rw [show aI h6 3 i = aI h4 3 i by rw [e6]; exact aI_pF]
      by_cases z : i = n + k
      · rw [e4, z, aI_pI_s ⟨_, G.2.2.1⟩]
        have : ad4 n bs x (n + k) = bbI x k := by unfold ad4; rw [if_neg (by omega), show n + k - n = k by omega]
        rw [this]
        exact ⟨rfl, bb_lt⟩
      · rw [e4, aI_pI_n (Or.inr z)]
        exact T0.2.2 i (by omega)
  refine nX8_add _ _ _ _ (bX8_add_0 _ _ _ _ ?_)
  exact go 4 0 h rfl fr.rf ⟨T.1, T.2.1, fun i hi => by have := T.2.2 i hi; unfold ad4; rw [if_pos (by omega)]; exact this⟩
def ad20 (n : Nat) (bs : Nat → Nat) (a b c d e : Int32) : Nat → Nat := ad4 (n + 16) (ad4 (n + 12) (ad4 (n + 8) (ad4 (n + 4) (ad4 n bs a) b) c) d) e
theorem s11_feed {n : Nat} {bs : Nat → Nat} {a b c d e : Int32} (ho : oK h 0 11) (r1 : gR h 0 1 = some 2) (L : cTpL h) (T : cTp h n bs) (H0 : 1580 < n → Q (some (.int (-1))) h) (H1 : ∀ h', n ≤ 1580 → fr [3] [(2, 5)] h h' → cTp h' (n + 20) (ad20 n bs a b c d e) → Q (some (.int (nI (n + 20)))) h') : zC mX11_feed [.ref 0, .int a, .int b, .int c, .int d, .int e] h Q := by
  have n16 := T.2.1
  refine nX11_feed _ _ _ _ _ _ _ _ (bX11_feed_0 _ _ _ _ _ _ _ _ ⟨ho, _, r1, L.1, ?_⟩)
  rw [T.1, nI_lit 20, nI_lit 1600, nI_add, nI_leI (by omega) (by decide)]
  refine ⟨fun q => s8_add L T (by omega) (fun h5 F5 L5 T5 => ⟨rfl, F5.o ho, _, by rw [F5.gr (by simp)]; exact r1, L5.1, s8_add L5 T5 (by omega) (fun h9 F9 L9 T9 => ?_)⟩), fun q => H0 (by omega)⟩
  have G9 := F5.tr F9
  refine ⟨rfl, G9.o ho, _, by rw [G9.gr (by simp)]; exact r1, L9.1, s8_add L9 T9 (by omega) (fun h13 F13 L13 T13 => ?_)⟩
  have G13 := G9.tr F13
  refine ⟨rfl, G13.o ho, _, by rw [G13.gr (by simp)]; exact r1, L13.1, s8_add L13 T13 (by omega) (fun h17 F17 L17 T17 => ?_)⟩
  have G17 := G13.tr F17
  refine ⟨rfl, G17.o ho, _, by rw [G17.gr (by simp)]; exact r1, L17.1, s8_add L17 T17 (by omega) (fun h21 F21 L21 T21 => ?_)⟩
  have G21 := G17.tr F21
  refine ⟨rfl, G21.o ho, _, by rw [G21.gr (by simp)]; exact r1, L21.1, ?_⟩
  rw [T21.1]
  exact H1 h21 (by omega) G21 T21
theorem s12_feed {n : Nat} {bs : Nat → Nat} {a b c d e : Int32} (M : mLay h) (T : mTp h n bs) (H0 : 1580 < n → Q (some (.int (-1))) h) (H1 : ∀ h', n ≤ 1580 → fr [85] [(84, 2)] h h' → mTp h' (n + 20) (ad20 n bs a b c d e) → Q (some (.int (nI (n + 20)))) h') : zC mX12_feed [.ref 84, .int a, .int b, .int c, .int d, .int e] h Q := by
  have n16 := T.2.1
  refine nX12_feed _ _ _ _ _ _ _ _ (bX12_feed_0 _ _ _ _ _ _ _ _ ⟨M.o, ?_⟩)
  rw [T.1, nI_lit 20, nI_lit 1600, nI_add, nI_leI (by omega) (by decide)]
  refine ⟨fun hq => ?_, fun q => H0 (by omega)⟩
  have r0 : gR h 84 0 = some 85 := M.2.2.1.1
  have k0 : iK h 85 1 := M.2.2.1.2.1
  have n0 : aN h 85 = 1620 := M.2.2.1.2.2
  have go : ∀ (m i : Nat) (h0 : zH), i + m = 20 → fr [85] [] h h0 → (∀ j, j < n + i → aI h0 85 j &&& 255 = nI (ad20 n bs a b c d e j) ∧ ad20 n bs a b c d e j < 256) → zX mX12_feed 18 [.ref 84, .int a, .int b, .int c, .int d, .int e, .int (nI i), .float 0] [] h0 Q := by
    intro m
    induction m with
    | zero =>
      intro i h0 hi F A
      have : i = 20 := by omega
      subst this
      refine bX12_feed_18 _ _ _ _ _ _ _ _ _ (br_t (by decide +kernel) ⟨F.o M.o, fun h3 e3 => ?_⟩)
      have g2 : gI h0 84 2 = nI n := by rw [F.gi (by simp)]; exact T.1
      have g3 : gI h3 84 2 = nI (n + 20) := by rw [e3, gI_pF_s (F.o M.o) (by decide), g2, nI_lit 20, nI_add]
      rw [g3]
      refine H1 h3 (by omega) ((F.mo (by simp) (by simp)).tr (by rw [e3]; exact fr_pF (by simp) (F.o M.o) rfl rfl)) ⟨g3, by omega, fun j hj => ?_⟩
      rw [show aI h3 85 j = aI h0 85 j by rw [e3]; exact aI_pF]
      exact A j hj
    | succ m ih =>
      intro i h0 hi F A
      have g2 : gI h0 84 2 = nI n := by rw [F.gi (by simp)]; exact T.1
      have st : ∀ (s : Int32), (bbI s (i % 4) = ad20 n bs a b c d e (n + i)) → zX mX12_feed 71 [.ref 84, .int a, .int b, .int c, .int d, .int e, .int (nI i), .float 0] [.int s] h0 Q := fun s hs => by
        refine bX12_feed_71 _ _ _ _ _ _ _ _ _ _ ⟨F.o M.o, _, by rw [F.gr (by simp)]; exact r0, F.ik k0, ?_, fun h5 e5 => ?_⟩
        · rw [g2, nI_add, F.n, n0]; exact vp_in_nI (by omega) (by decide)
        · rw [g2, nI_add, nI_clamp (by omega)] at e5
          rw [nI_1]
          refine ih (i + 1) h5 (by omega) (F.tr (by rw [e5]; exact fr_pI (by simp))) (fun j hj => ?_)
          by_cases z : j = n + i
          · rw [e5, z, aI_pI_s ⟨_, F.ik k0⟩, ← hs]
            have := @by_m s (i / 4) (i % 4) (by omega) (Nat.mod_lt _ (by decide))
            rw [show 4 * (i / 4) + i % 4 = i by omega] at this
            exact ⟨this, bb_lt⟩
          · rw [e5, aI_pI_n (Or.inr z)]; exact A j (by omega)
      refine bX12_feed_18 _ _ _ _ _ _ _ _ _ (br_f (nI_ge (b := 20) (by omega) (by decide)) ?_)
      rw [nI_lit 4, nI_lit 8, nI_lit 12, nI_lit 16, nI_leI (by decide) (by omega), nI_leI (by decide) (by omega), nI_leI (by decide) (by omega), nI_leI (by decide) (by omega)]
      unfold ad20 ad4 at st
      refine ⟨fun q1 => ⟨fun q2 => ⟨fun q3 => ⟨fun q4 => st e ?_, fun q4 => st d ?_⟩, fun q3 => st c ?_⟩, fun q2 => st b ?_⟩, fun q1 => st a ?_⟩
      · rw [if_neg (by omega)]; congr 1; omega
      · rw [if_pos (by omega), if_neg (by omega)]; congr 1; omega
      · rw [if_pos (by omega), if_pos (by omega), if_neg (by omega)]; congr 1; omega
      · rw [if_pos (by omega), if_pos (by omega), if_pos (by omega), if_neg (by omega)]; congr 1; omega
      · rw [if_pos (by omega), if_pos (by omega), if_pos (by omega), if_pos (by omega), if_neg (by omega)]; congr 1; omega
  refine go 20 0 h rfl fr.rf (fun j hj => ?_)
  have := T.2.2 j hj
  unfold ad20 ad4
  rw [if_pos (by omega), if_pos (by omega), if_pos (by omega), if_pos (by omega), if_pos (by omega)]
  exact this
end

/-! ===== JDK: what bitCount and fill do ===== -/
section
variable {h h' : zH} {Q : Option Value → zH → Prop}
theorem l7_fill {a n : Nat} {x : Int32} (ho : iK h a 0) (hn : aN h a = n) (h31 : n < 2 ^ 31) : ∀ (d j : Nat) (h0 : zH), j + d = n → fr [a] [] h h0 → (∀ i, i < j → aI h0 a i = x) → (∀ h', fr [a] [] h h' → (∀ i, i < n → aI h' a i = x) → Q none h') → zX mJ7_fill_53178 5 [.ref a, .int x, .int (nI j), .int (nI n)] [] h0 Q := by
  intro d
  induction d with
  | zero =>
    intro j h0 hj F e H
    have : j = n := by omega
    subst this
    exact bJ7_fill_53178_5 _ _ _ _ _ _ (br_t (nI_le (Nat.le_refl _) h31) (H h0 F e))
  | succ d ih =>
    intro j h0 hj F e H
    refine bJ7_fill_53178_5 _ _ _ _ _ _ (br_f (nI_ge (by omega) h31) ⟨F.ik ho, by rw [F.n, hn]; exact vp_in_nI (by omega) h31, fun h4 e4 => ?_⟩)
    rw [nI_clamp (by omega)] at e4
    rw [nI_1]
    refine ih (j + 1) h4 (by omega) (F.tr (by rw [e4]; exact fr_pI (by simp))) (fun i hi => ?_) H
    by_cases z : i = j
    · subst z; rw [e4]; exact aI_pI_s ⟨_, F.ik ho⟩
    · rw [e4, aI_pI_n (Or.inr z)]; exact e i (by omega)
theorem s7_fill {a n : Nat} {x : Int32} (ho : iK h a 0) (hn : aN h a = n) (h31 : n < 2 ^ 31) (H : ∀ h', fr [a] [] h h' → (∀ i, i < n → aI h' a i = x) → Q none h') : zC mJ7_fill_53178 [.ref a, .int x] h Q := by
  refine nJ7_fill_53178 _ _ _ _ (bJ7_fill_53178_0 _ _ _ _ ⟨ho, ?_⟩)
  rw [hn]
  exact l7_fill ho hn h31 n 0 h (by omega) fr.rf (fun i hi => absurd hi (Nat.not_lt_zero _)) H
def bc1 (p : Int32) : Int32 := p - ((p.toUInt32 >>> ((1 : Int32).toUInt32 &&& Int32.toUInt32 31)).toInt32 &&& (1431655765 : Int32))
def bc2 (p : Int32) : Int32 := (p &&& (858993459 : Int32)) + ((p.toUInt32 >>> ((2 : Int32).toUInt32 &&& Int32.toUInt32 31)).toInt32 &&& (858993459 : Int32))
def bc3 (p : Int32) : Int32 := (p + (p.toUInt32 >>> ((4 : Int32).toUInt32 &&& Int32.toUInt32 31)).toInt32) &&& (252645135 : Int32)
def bc4 (p : Int32) : Int32 := p + (p.toUInt32 >>> ((8 : Int32).toUInt32 &&& Int32.toUInt32 31)).toInt32
def bc5 (p : Int32) : Int32 := (p + (p.toUInt32 >>> ((16 : Int32).toUInt32 &&& Int32.toUInt32 31)).toInt32) &&& (63 : Int32)
theorem s6_bitCount_i {p : Int32} (H : Q (some (.int (bc5 (bc4 (bc3 (bc2 (bc1 p))))))) h) : zC mJ6_bitCount_0f7a4 [.int p] h Q :=
  nJ6_bitCount_0f7a4 _ _ _ (bJ6_bitCount_0f7a4_0 _ _ _ H)
/-- how many bits -/
def pcF (s : Nat) : Nat := sm (fun v => s / 2 ^ v % 2) 0 31
theorem bc_tab : ∀ s, s < 256 → bc5 (bc4 (bc3 (bc2 (bc1 (nI s))))) = nI (pcF s) := by decide +kernel
theorem bc_tab2 : ∀ s, s < 256 → bc5 (bc4 (bc3 (bc2 (bc1 (nI (sp2 8 s)))))) = nI (pcF s) := by decide +kernel
theorem s6_bitCount {s : Nat} (hs : s < 256) (H : Q (some (.int (nI (pcF s)))) h) : zC mJ6_bitCount_0f7a4 [.int (nI s)] h Q :=
  s6_bitCount_i (by rw [bc_tab s hs]; exact H)
theorem s6_bitCount2 {V : Nat} {f : Nat → Nat} (hV : V ≤ 8) (hf : ∀ v, v < V → f v < 2) (H : Q (some (.int (nI (pcF (en 2 V f))))) h) : zC mJ6_bitCount_0f7a4 [.int (nI (en 4 V f))] h Q := by
  have h1 : en 2 V f < 2 ^ V := en_lt hf
  have h2 : en 2 V f < 256 := Nat.lt_of_lt_of_le h1 (Nat.le_trans (Nat.pow_le_pow_right (by decide) hV) (by decide))
  refine s6_bitCount_i ?_
  have := bc_tab2 _ h2
  rw [show (8 : Nat) = V + (8 - V) by omega, sp2_w h1, sp2_en hf] at this
  rw [this]
  exact H
theorem pcF_0 : pcF 0 = 0 := by decide
end

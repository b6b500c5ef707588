/-! ===== the reference's constructor comes to the empty state, the class's standing beside it ===== -/
section
variable {h h' : zH} {Q : Option Value → zH → Prop} {l : List zE} {P : Nat}
theorem mF0_g (k : Nat) : vI (mF0.getD k .null) = 0 := by
  by_cases hk : k < 62
  · exact (by decide +kernel : ∀ k, k < 62 → vI (mF0.getD k .null) = 0) k hk
  · rw [List.getD_eq_getElem?_getD, List.getElem?_eq_none (by show 62 ≤ k; omega)]; rfl
theorem mkI_0 (B : hA h 84 l [zO 12 mF0] P) : mkI h [] (fun _ => 0) := by
  have x : h.2.2 84 = zO 12 mF0 := (hA_at (j := 0) B rfl).1
  refine ⟨hA_o (j := 0) B rfl rfl rfl, B.2.1, fun j q hj => (by cases hj), fun k _ => ?_⟩
  have y : gF h 84 k = mF0.getD k .null := by simp only [gF, x]
  show vI (gF h 84 k) = 0
  rw [y]; exact mF0_g k
/-- row 120 is set to -1 thrice -/
theorem s12_init3 (d : Nat) : ∀ (k : Nat) (h : zH), k + d = 3 → mLay h → (∀ j, j < k → aI h 120 j = -1) → (∀ h', fr [120] [] h h' → (∀ j, j < 3 → aI h' 120 j = -1) → Q none h') → zX mX12_init 353 [.ref 84, .int (nI k)] [] h Q := by
  induction d with
  | zero =>
    intro k h hk M A H
    obtain rfl : k = 3 := by omega
    exact bX12_init_353 _ _ _ _ (br_t (by decide +kernel) (H h fr.rf A))
  | succ d ih =>
    intro k h hk M A H
    refine bX12_init_353 _ _ _ _ (br_f (by rw [nI_lit 3]; exact nI_ge (by omega) (by decide)) ⟨M.o, _, M.r56, M.k56, by rw [M.n56]; exact vp_in_nI (by omega) (by decide), fun h6 e6 => ?_⟩)
    rw [nI_clamp (by omega)] at e6
    have F : fr [120] [] h h6 := by rw [e6]; exact fr_pI (by simp)
    rw [nI_1]
    refine ih (k + 1) h6 (by omega) (M.fr F (by decide)) (fun j hj => ?_) (fun h' F' A' => H h' (F.tr F') A')
    rw [e6]
    by_cases y : j = k
    · rw [y]; exact aI_pI_s ⟨_, M.k56⟩
    · rw [aI_pI_n (Or.inr y)]; exact A j (by omega)
theorem r12_init (B0 : hA h 84 cL0 [zO 12 mF0] P) (H : ∀ h', h'.1 = 126 → h'.2.1 = P + 227836 → cR h' wz (P + 227836) 0 → mR h' wz → Q none h') : zC mX12_init [.ref 84] h Q := by
  refine s12_initR (mkI_0 B0) B0 (fun h1 A S p => ?_)
  have M := mLay_mk A
  have gg : ∀ k, (∀ q, q ∈ mLL → q.1 ≠ k) → gI h1 84 k = (if k = 40 then -1 else if k = 5 then -1 else 0) := A.2.2.2
  have l1 : h1.1 = 126 := A.2.1
  have c1 : cR h1 wz (P + 227836) 0 := cR_wz S l1 (Nat.le_of_eq p)
  refine s12_clearBank (rb := 0) M ((gg 27 (by decide)).trans rfl) (by decide) (fun h2 _ F2 R2 => ⟨rfl, F2.o M.o, ?_⟩)
  have M2 := M.fr F2 (by decide)
  have T2 := R2.mT rlO_0 M2 (by rw [F2.gi (by simp)]; exact (gg 26 (by decide)).trans rfl)
  refine s12_layRows T2 (by rw [F2.gi (by simp)]; exact (gg 40 (by decide)).trans rfl) (R2.mB rlO_0) (fun h3 F3 S3 => ⟨rfl, ?_⟩)
  have M3 := M2.fr F3 (by decide)
  refine s12_init3 3 0 h3 rfl M3 (fun j hj => absurd hj (Nat.not_lt_zero j)) (fun h4 F4 A4 => ?_)
  have F24 : fr [87, 88, 89, 90, 96, 97, 98, 106, 107, 108, 109, 120] [(84, 43)] h1 h4 := ((F2.mo (fun k hk => by revert k; decide) (fun k hk => by cases hk)).tr (F3.mo (fun k hk => by revert k; decide) (fun k hk => by simpa [YR] using hk))).tr (F4.mo (fun k hk => by revert k; decide) (fun k hk => by cases hk))
  have m4 : mk2 h1 h4 := mk2_fr F24 (by decide) (by decide)
  have F34 : fr [106, 107, 108, 109, 120] [(84, 43)] h2 h4 := (F3.mo (fun k hk => by revert k; decide) (fun k hk => by simpa [YR] using hk)).tr (F4.mo (fun k hk => by revert k; decide) (fun k hk => by cases hk))
  have R4 := R2.fr F34 (by decide) (by decide)
  have g4 : ∀ k, k ≠ 43 → (∀ q, q ∈ mLL → q.1 ≠ k) → gI h4 84 k = (if k = 40 then -1 else if k = 5 then -1 else 0) := fun k hk hq => by rw [F24.gi (by simp [hk])]; exact gg k hq
  have M4 := M3.fr F4 (by decide)
  refine H h4 (F24.1.1.trans l1) (F24.1.2.trans p) (cR_mk2 c1 m4) ⟨stO_wz, 0, ⟨R4.mT rlO_0 M4 ((g4 26 (by decide) (by decide)).trans rfl), R4.1.2, ⟨(g4 2 (by decide) (by decide)).trans rfl, Nat.zero_le _, fun i hi => absurd hi (Nat.not_lt_zero i)⟩, S3.fr F4 (by decide) (by simp)⟩, ⟨(g4 40 (by decide) (by decide)).trans rfl, R4.2.2.2.1⟩, fun i hi => R4.2.2.2.2 i hi, ⟨⟨(g4 54 (by decide) (by decide)).trans rfl, fun n q z => (by cases n <;> cases z)⟩, fun v hv => absurd hv (Nat.not_lt_zero v)⟩, fun i hi => A4 i hi, (g4 55 (by decide) (by decide)).trans rfl, (g4 4 (by decide) (by decide)).trans rfl, (g4 5 (by decide) (by decide)).trans rfl⟩
end

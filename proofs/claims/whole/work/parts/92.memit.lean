/-! ===== the reference's reader: a step, a unit ===== -/
section
variable {h h' : zH} {Q : Option Value → zH → Prop} {n i p m : Nat} {bs : Nat → Nat}
theorem s12_emit {x a b : Int32} (M : mLay h) (h32 : gI h 84 32 = nI p) (hp : p < 48) (C : aI h 97 p = nI m) (hm : m < 640) (H : ∀ h', fr [97, 99, 100, 101] [] h h' → aI h' 97 p = nI (m + 1) → aI h' 99 (640 * p + m) = x → aI h' 100 (640 * p + m) = a → aI h' 101 (640 * p + m) = b → (∀ k, k ≠ 640 * p + m → aI h' 99 k = aI h 99 k ∧ aI h' 100 k = aI h 100 k ∧ aI h' 101 k = aI h 101 k) → (∀ q, q ≠ p → aI h' 97 q = aI h 97 q) → Q none h') : zC mX12_emit [.ref 84, .int x, .int a, .int b] h Q := by
  have cp : (nI p).toNatClampNeg = p := nI_clamp (by omega)
  have ck : (nI (640 * p + m)).toNatClampNeg = 640 * p + m := nI_clamp (by omega)
  have r21 : ∀ h1, mLay h1 → gR h1 84 21 = some 97 ∧ iK h1 97 0 ∧ aN h1 97 = 48 := fun h1 L => by
    obtain ⟨-, -, -, -, -, -, -, -, -, -, -, -, -, -, z, -⟩ := L
    exact z
  have r23 : ∀ h1, mLay h1 → gR h1 84 23 = some 99 ∧ iK h1 99 0 ∧ aN h1 99 = 30720 := fun h1 L => by
    obtain ⟨-, -, -, -, -, -, -, -, -, -, -, -, -, -, -, -, z, -⟩ := L
    exact z
  have r24 : ∀ h1, mLay h1 → gR h1 84 24 = some 100 ∧ iK h1 100 0 ∧ aN h1 100 = 30720 := fun h1 L => by
    obtain ⟨-, -, -, -, -, -, -, -, -, -, -, -, -, -, -, -, -, z, -⟩ := L
    exact z
  have r25 : ∀ h1, mLay h1 → gR h1 84 25 = some 101 ∧ iK h1 101 0 ∧ aN h1 101 = 30720 := fun h1 L => by
    obtain ⟨-, -, -, -, -, -, -, -, -, -, -, -, -, -, -, -, -, -, z, -⟩ := L
    exact z
  refine nX12_emit _ _ _ _ _ _ (bX12_emit_0 _ _ _ _ _ _ ⟨M.o, _, (r21 h M).1, (r21 h M).2.1, ?_⟩)
  rw [h32, cp, C, (r21 h M).2.2, nI_lit 640, pk_mul, nI_add, ck]
  refine ⟨vp_in_nI hp (by decide), _, (r23 h M).1, (r23 h M).2.1, by rw [(r23 h M).2.2]; exact vp_in_nI (by omega) (by decide), fun h8 e8 => ?_⟩
  have F8 : fr [97, 99, 100, 101] [] h h8 := by rw [e8]; exact fr_pI (by simp)
  have M8 : mLay h8 := M.fr F8 (by decide)
  refine ⟨_, (r24 h8 M8).1, (r24 h8 M8).2.1, by rw [(r24 h8 M8).2.2]; exact vp_in_nI (by omega) (by decide), fun h15 e15 => ?_⟩
  have F15 : fr [97, 99, 100, 101] [] h8 h15 := by rw [e15]; exact fr_pI (by simp)
  have M15 : mLay h15 := M8.fr F15 (by decide)
  refine ⟨_, (r25 h15 M15).1, (r25 h15 M15).2.1, by rw [(r25 h15 M15).2.2]; exact vp_in_nI (by omega) (by decide), fun h23 e23 => ?_⟩
  have F23 : fr [97, 99, 100, 101] [] h15 h23 := by rw [e23]; exact fr_pI (by simp)
  have M23 : mLay h23 := M15.fr F23 (by decide)
  have G23 := F8.tr (F15.tr F23)
  refine ⟨_, (r21 h23 M23).1, (r21 h23 M23).2.1, ?_⟩
  have c23 : aI h23 97 = aI h 97 := by rw [e23, e15, e8]; exact funext fun k => by rw [aI_pI_n (Or.inl (by decide)), aI_pI_n (Or.inl (by decide)), aI_pI_n (Or.inl (by decide))]
  rw [G23.gi (by simp), h32, cp, (r21 h23 M23).2.2, c23, C, nI_1]
  refine ⟨vp_in_nI hp (by decide), vp_in_nI hp (by decide), fun h33 e33 => ?_⟩
  have F33 : fr [97, 99, 100, 101] [] h23 h33 := by rw [e33]; exact fr_pI (by simp)
  refine H h33 (G23.tr F33) ?_ ?_ ?_ ?_ (fun k hk => ⟨?_, ?_, ?_⟩) (fun q hq => ?_)
  · rw [e33]; exact aI_pI_s ⟨_, (r21 h23 M23).2.1⟩
  · rw [e33, aI_pI_n (Or.inl (by decide)), e23, aI_pI_n (Or.inl (by decide)), e15, aI_pI_n (Or.inl (by decide)), e8]; exact aI_pI_s ⟨_, (r23 h M).2.1⟩
  · rw [e33, aI_pI_n (Or.inl (by decide)), e23, aI_pI_n (Or.inl (by decide)), e15]; exact aI_pI_s ⟨_, (r24 h8 M8).2.1⟩
  · rw [e33, aI_pI_n (Or.inl (by decide)), e23]; exact aI_pI_s ⟨_, (r25 h15 M15).2.1⟩
  · rw [e33, aI_pI_n (Or.inl (by decide)), e23, aI_pI_n (Or.inl (by decide)), e15, aI_pI_n (Or.inl (by decide)), e8, aI_pI_n (Or.inr hk)]
  · rw [e33, aI_pI_n (Or.inl (by decide)), e23, aI_pI_n (Or.inl (by decide)), e15, aI_pI_n (Or.inr hk), e8, aI_pI_n (Or.inl (by decide))]
  · rw [e33, aI_pI_n (Or.inl (by decide)), e23, aI_pI_n (Or.inr hk), e15, aI_pI_n (Or.inl (by decide)), e8, aI_pI_n (Or.inl (by decide))]
  · rw [e33, aI_pI_n (Or.inr hq), c23]
end

/-! ===== end, fault ===== -/
section
variable {h h' : zH} {Q : Option Value → zH → Prop} {n : Nat} {bs : Nat → Nat}
theorem s11_end {x : Int32} (ho : oK h 0 11) (r1 : gR h 0 1 = some 2) (L : cTpL h) (T : cTp h n bs) (H1 : ∀ k h', x = nI k → k ≤ n → fr [] [(2, 5)] h h' → cTp h' k bs → Q (some (.int (nI k))) h') (H0 : (∀ k, k ≤ n → x ≠ nI k) → Q (some (.int (-1))) h) : zC mX11_end [.ref 0, .int x] h Q := by
  have n16 := T.2.1
  refine nX11_end _ _ _ _ (bX11_end_0 _ _ _ _ ⟨fun q => H0 (fun k hk z => ?_), fun q => ⟨ho, _, r1, L.1, ?_⟩⟩)
  · rw [z] at q; exact nI_pos (by omega) q
  · obtain ⟨m, m1, rfl⟩ := nI_of q
    rw [T.1, nI_leI m1 (by omega)]
    refine ⟨fun w h6 e6 => ?_, fun w => H0 (fun k hk z => ?_)⟩
    · have F : fr [] [(2, 5)] h h6 := by rw [e6]; exact fr_pF (by simp) L.1 rfl rfl
      refine H1 m h6 rfl w F ⟨by rw [e6, gI_pF_s L.1 (by decide)], by omega, fun i hi => ?_⟩
      rw [F.i (by simp)]; exact T.2.2 i (by omega)
    · have := (nI_eq m1 (by omega)).mp z
      omega
theorem s12_endT {x : Int32} (M : mLay h) (T : mTp h n bs) (H1 : ∀ k h', x = nI k → k ≤ n → fr [] [(84, 2)] h h' → mTp h' k bs → Q (some (.int (nI k))) h') (H0 : (∀ k, k ≤ n → x ≠ nI k) → Q (some (.int (-1))) h) : zC mX12_end [.ref 84, .int x] h Q := by
  have n16 := T.2.1
  refine nX12_end _ _ _ _ (bX12_end_0 _ _ _ _ ⟨fun q => H0 (fun k hk z => ?_), fun q => ⟨M.o, ?_⟩⟩)
  · rw [z] at q; exact nI_pos (by omega) q
  · obtain ⟨m, m1, rfl⟩ := nI_of q
    rw [T.1, nI_leI m1 (by omega)]
    refine ⟨fun w h4 e4 => ?_, fun w => H0 (fun k hk z => ?_)⟩
    · have F : fr [] [(84, 2)] h h4 := by rw [e4]; exact fr_pF (by simp) M.o rfl rfl
      refine H1 m h4 rfl w F ⟨by rw [e4, gI_pF_s M.o (by decide)], by omega, fun i hi => ?_⟩
      rw [F.i (by simp)]; exact T.2.2 i (by omega)
    · have := (nI_eq m1 (by omega)).mp z
      omega
theorem s11_fault {x : Int32} (ho : oK h 0 11) (H : Q (some (.int (if x = 0 then gI h 0 13 else if x = 1 then gI h 0 14 else -1))) h) : zC mX11_fault [.ref 0, .int x] h Q := by
  refine nX11_fault _ _ _ _ (bX11_fault_0 _ _ _ _ ⟨fun q => ⟨ho, ?_⟩, fun q => ⟨fun q2 => ⟨ho, ?_⟩, fun q2 => ?_⟩⟩)
  · rw [if_pos q] at H; exact H
  · rw [if_neg q, if_pos q2] at H; exact H
  · rw [if_neg q, if_neg q2] at H; exact H
end

/-! ===== specs: leaves of BallotRing ===== -/
/-- a place of a row, 0 outside -/
def atF (f : Nat → Int32) (n : Nat) (i : Int32) : Int32 := if i < 0 then 0 else if nI n ≤ i then 0 else f i.toNatClampNeg
theorem vp_in_c {i : Int32} {n : Nat} (hn : n < 2 ^ 31) (h0 : ¬ i < 0) (h1 : ¬ nI n ≤ i) : vp_in i n := by
  obtain ⟨j, hj, rfl⟩ := nI_of h0
  refine vp_in_nI ?_ hn
  rcases Nat.lt_or_ge j n with h | h
  · exact h
  · exact absurd (nI_le h hj) h1
theorem s_at {h : zH} {a : Nat} {i : Int32} (ho : iK h a 0) (hn : aN h a < 2 ^ 31) : zC mX11_at [.ref a, .int i] h (fun r h' => r = some (.int (atF (aI h a) (aN h a) i)) ∧ h' = h) := by
  refine nX11_at _ _ _ _ (bX11_at_0 _ _ _ _ ⟨fun q => ⟨?_, rfl⟩, fun q => ⟨ho, fun q2 => ⟨?_, rfl⟩, fun q2 => ⟨vp_in_c hn q q2, ?_, rfl⟩⟩⟩)
  · simp [atF, q]
  · simp [atF, q, q2]
  · simp [atF, q, q2]
/-- a place set, nothing outside -/
def putH (h : zH) (a : Nat) (i : Int32) (x : Int32) : zH := if i < 0 then h else if nI (aN h a) ≤ i then h else pI h a i.toNatClampNeg x
theorem s_put {h : zH} {a : Nat} {i x : Int32} (ho : iK h a 0) (hn : aN h a < 2 ^ 31) : zC mX11_put [.ref a, .int i, .int x] h (fun r h' => r = none ∧ h' = putH h a i x) := by
  refine nX11_put _ _ _ _ _ (bX11_put_0 _ _ _ _ _ ⟨fun q => ⟨rfl, ?_⟩, fun q => ⟨ho, fun q2 => ⟨rfl, ?_⟩, fun q2 => ⟨vp_in_c hn q q2, fun h5 e5 => ⟨rfl, ?_⟩⟩⟩⟩)
  · simp [putH, q]
  · simp [putH, q, q2]
  · simp [putH, q, q2, e5]

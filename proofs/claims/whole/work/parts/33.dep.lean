/-! ===== what a ballot looks at decides what it says ===== -/
/-- whom a ballot looks at -/
def lkB (V : Nat) (st : Nat → Nat) (own n : Nat) (c : Nat → Nat × Nat × Nat) (v : Nat) : Bool := decide (v ≠ own) && (akV n c v || (decide (v < V) && (akS n c 0 || akS n c (st v + 1))))
theorem akV_of {n i : Nat} {c : Nat → Nat × Nat × Nat} (hi : i < n) (h : (c i).1 = 2 ∨ (c i).1 = 13) : akV n c (c i).2.2 = true := by
  simp only [akV, List.any_eq_true, List.mem_range]
  refine ⟨i, hi, ?_⟩
  rcases h with h | h <;> simp [h]
theorem akS_of {n i : Nat} {c : Nat → Nat × Nat × Nat} (hi : i < n) (h : (c i).1 = 1 ∨ (c i).1 = 14 ∨ (c i).1 = 15) : akS n c (c i).2.1 = true := by
  simp only [akS, List.any_eq_true, List.mem_range]
  refine ⟨i, hi, ?_⟩
  rcases h with h | h | h <;> simp [h]
theorem st1_dep {V V' N : Nat} {st wt mk mk' : Nat → Nat} {own n i ow : Nat} {c : Nat → Nat × Nat × Nat} {l : List Int32} (hV : V' ≤ V) (hd : ∀ v, v < V → lkB V st own n c v = true → mk v = mk' v) (hi : i < n) (hok : ((c i).1 = 2 ∨ (c i).1 = 13) → (c i).2.2 < V' ∧ (c i).2.2 ≠ own) :
    st1 V N st wt mk own (c i) ow l = st1 V N st wt mk' own (c i) ow l := by
  have e1 : ((c i).1 = 2 ∨ (c i).1 = 13) → mk (c i).2.2 = mk' (c i).2.2 := fun z => by
    refine hd _ (by have := (hok z).1; omega) ?_
    simp [lkB, akV_of hi z, (hok z).2]
  have e2 : ((c i).1 = 1 ∨ (c i).1 = 14 ∨ (c i).1 = 15) → ∀ m, vts V st wt mk own (c i).2.1 m = vts V st wt mk' own (c i).2.1 m := fun z m => by
    refine sm_congr V 0 (fun v _ hv => ?_)
    have ha := akS_of hi z
    unfold vf
    by_cases q : v = own
    · simp [q]
    · by_cases q2 : (c i).2.1 = 0 ∨ (c i).2.1 = st v + 1
      · have : mk v = mk' v := hd v (by omega) (by
          have hv' : v < V := by omega
          rcases q2 with q2 | q2
          · rw [q2] at ha; simp [lkB, q, hv', ha]
          · rw [q2] at ha; simp [lkB, q, hv', ha])
        rw [this]
      · simp [q2]
  unfold st1
  by_cases z1 : (c i).1 = 1
  · rw [e2 (Or.inl z1)]; simp [z1]
  · by_cases z2 : (c i).1 = 2
    · rw [e1 (Or.inl z2)]; simp [z2]
    · by_cases z3 : (c i).1 = 13
      · rw [e1 (Or.inr z3)]; simp [z3]
      · by_cases z4 : (c i).1 = 14
        · have : vts V st wt mk own (c i).2.1 = vts V st wt mk' own (c i).2.1 := funext (e2 (Or.inr (Or.inl z4)))
          rw [this]; simp [z4]
        · by_cases z5 : (c i).1 = 15
          · have : vts V st wt mk own (c i).2.1 = vts V st wt mk' own (c i).2.1 := funext (e2 (Or.inr (Or.inr z5)))
            rw [this]; simp [z5]
          · simp [z1, z2, z3, z4, z5]
theorem ex_dep {V V' N : Nat} {st wt mk mk' : Nat → Nat} {own n : Nat} {c : Nat → Nat × Nat × Nat} (hV : V' ≤ V) (hd : ∀ v, v < V → lkB V st own n c v = true → mk v = mk' v) (hok : ∀ i, i < n → ((c i).1 = 2 ∨ (c i).1 = 13) → (c i).2.2 < V' ∧ (c i).2.2 ≠ own) : ∀ (k i ow : Nat) (l : List Int32), i + k = n → ex V N st wt mk own c k i ow l = ex V N st wt mk' own c k i ow l
  | 0, _, _, _, _ => rfl
  | k + 1, i, ow, l, hi => by
    rw [ex, ex, st1_dep (mk' := mk') hV hd (by omega : i < n) (hok i (by omega))]
    split
    · exact ex_dep hV hd hok k (i + 1) ow l (by omega)
    · split
      · rfl
      · exact ex_dep hV hd hok k (i + 1) _ _ (by omega)
theorem okC_asks {V N own n : Nat} {c : Nat → Nat × Nat × Nat} (O : okC V N own n c) : ∀ i, i < n → ((c i).1 = 2 ∨ (c i).1 = 13) → (c i).2.2 < V ∧ (c i).2.2 ≠ own := by
  obtain ⟨-, Hh, -, O⟩ := O
  intro i hi hk
  have := (O i hi).2
  unfold okO at this
  omega
/-- a ballot says the same where it looks at the same -/
theorem sayF_dep {V V' N : Nat} {st wt mk mk' : Nat → Nat} {own n : Nat} {c : Nat → Nat × Nat × Nat} (hV : V' ≤ V) (O : okC V' N own n c) (hd : ∀ v, v < V → lkB V st own n c v = true → mk v = mk' v) : sayF V N st wt mk own n c = sayF V N st wt mk' own n c :=
  ex_dep hV hd (okC_asks O) n 0 0 [] (by omega)
theorem sayF_congr {V V' N : Nat} {st wt mk mk' : Nat → Nat} {own n : Nat} {c : Nat → Nat × Nat × Nat} (hV : V' ≤ V) (O : okC V' N own n c) (hd : ∀ v, v < V → mk v = mk' v) : sayF V N st wt mk own n c = sayF V N st wt mk' own n c :=
  sayF_dep hV O (fun v hv _ => hd v hv)

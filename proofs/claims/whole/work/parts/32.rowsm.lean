/-! ===== rows of the class and of the reference, side by side ===== -/
theorem range_mul (m : Nat) : ∀ n : Nat, List.range (n * m) = (List.range n).flatMap (fun q => (List.range m).map (fun d => q * m + d))
  | 0 => by simp
  | n + 1 => by
    rw [Nat.succ_mul, List.range_add, List.range_succ, List.flatMap_append, range_mul m n]
    simp
/-- a row that can be: its digits -/
def cbB (N V r : Nat) : Bool := (List.range V).all (fun v => decide (dg 4 V r v ≤ N))
theorem cbB_iff {N V r : Nat} : cbB N V r = true ↔ ∀ v, v < V → dg 4 V r v ≤ N := by
  simp [cbB]
theorem cbB_s {N V q d : Nat} (hd : d < 4) : cbB N (V + 1) (q * 4 + d) = (cbB N V q && decide (d ≤ N)) := by
  rw [Bool.eq_iff_iff, cbB_iff, Bool.and_eq_true, cbB_iff, decide_eq_true_eq]
  have e1 : dg 4 (V + 1) (q * 4 + d) V = d := by rw [dg, if_pos rfl]; omega
  have e2 : ∀ v, v < V → dg 4 (V + 1) (q * 4 + d) v = dg 4 V q v := fun v hv => by
    rw [dg, if_neg (by omega)]; congr 1; omega
  constructor
  · intro h
    refine ⟨fun v hv => ?_, ?_⟩
    · have := h v (by omega); rwa [e2 v hv] at this
    · have := h V (by omega); rwa [e1] at this
  · rintro ⟨h1, h2⟩ v hv
    rcases Nat.lt_or_ge v V with z | z
    · rw [e2 v z]; exact h1 v z
    · have : v = V := by omega
      rw [this, e1]; exact h2
/-- the class's number of the reference's row r -/
def crF (N V r : Nat) : Nat := en 4 V (dg (N + 1) V r)
theorem crF_s {N V q d : Nat} (hd : d < N + 1) : crF N (V + 1) (q * (N + 1) + d) = crF N V q * 4 + d := by
  rw [crF, en, dg, if_pos rfl]
  have e : (q * (N + 1) + d) % (N + 1) = d := by rw [Nat.mul_comm, Nat.mul_add_mod, Nat.mod_eq_of_lt hd]
  have e2 : (q * (N + 1) + d) / (N + 1) = q := by rw [Nat.mul_comm, Nat.mul_add_div (by omega), Nat.div_eq_of_lt hd, Nat.add_zero]
  rw [e, crF]
  congr 2
  exact en_congr (fun v hv => by rw [dg, if_neg (by omega), e2])
theorem filter_le : ∀ N, N < 4 → (List.range 4).filter (fun d => decide (d ≤ N)) = List.range (N + 1) := by decide
/-- the rows that can be, in order -/
theorem rows_eq {N : Nat} (hN : N ≤ 3) : ∀ V : Nat, (List.range (4 ^ V)).filter (cbB N V) = (List.range ((N + 1) ^ V)).map (crF N V)
  | 0 => by simp [cbB, crF, en, List.range_succ]
  | V + 1 => by
    rw [Nat.pow_succ, Nat.pow_succ, range_mul, range_mul, List.filter_flatMap, List.map_flatMap]
    have ih := rows_eq hN V
    have e1 : ∀ q, ((List.range 4).map (fun d => q * 4 + d)).filter (cbB N (V + 1)) = if cbB N V q then (List.range (N + 1)).map (fun d => q * 4 + d) else [] := by
      intro q
      rw [List.filter_map]
      by_cases z : cbB N V q = true
      · rw [if_pos z, ← filter_le N (by omega)]
        congr 1
        apply List.filter_congr
        intro d hd
        have := List.mem_range.mp hd
        simp [cbB_s this, z]
      · rw [if_neg z]
        have : (List.range 4).filter (cbB N (V + 1) ∘ fun d => q * 4 + d) = [] := by
          apply List.filter_eq_nil_iff.mpr
          intro d hd
          have := List.mem_range.mp hd
          simp [cbB_s this, z]
        rw [this]; rfl
    have e2 : ∀ q, ((List.range (N + 1)).map (fun d => q * (N + 1) + d)).map (crF N (V + 1)) = (List.range (N + 1)).map (fun d => crF N V q * 4 + d) := by
      intro q
      rw [List.map_map]
      apply List.map_congr_left
      intro d hd
      exact crF_s (List.mem_range.mp hd)
    simp only [e1, e2]
    have e3 : ∀ l : List Nat, l.flatMap (fun q => if cbB N V q = true then (List.range (N + 1)).map (fun d => q * 4 + d) else []) = (l.filter (cbB N V)).flatMap (fun q => (List.range (N + 1)).map (fun d => q * 4 + d)) := by
      intro l
      induction l with
      | nil => rfl
      | cons a l ih =>
        rw [List.flatMap_cons, ih, List.filter_cons]
        split
        · rw [List.flatMap_cons]
        · simp
    rw [e3, ih, List.flatMap_map]
theorem crF_lt {N V r : Nat} (hN : N ≤ 3) : crF N V r < 4 ^ V := en_lt (fun v _ => Nat.lt_of_lt_of_le (dg_lt (by omega)) (by omega))
theorem dg_cr {N V r : Nat} (hN : N ≤ 3) : ∀ v, v < V → dg 4 V (crF N V r) v = dg (N + 1) V r v :=
  dg_en (fun v _ => Nat.lt_of_lt_of_le (dg_lt (by omega)) (by omega))
/-- filters over the class's rows and over the reference's -/
theorem rows_filter {N : Nat} (hN : N ≤ 3) (V : Nat) (p : Nat → Bool) : (List.range (4 ^ V)).filter (fun r => cbB N V r && p r) = ((List.range ((N + 1) ^ V)).filter (fun r => p (crF N V r))).map (crF N V) := by
  have : (List.range (4 ^ V)).filter (fun r => cbB N V r && p r) = ((List.range (4 ^ V)).filter (cbB N V)).filter p := by
    rw [List.filter_filter]
    congr 1
    funext r
    exact Bool.and_comm ..
  rw [this, rows_eq hN, List.filter_map]
  rfl
theorem filter_range_s (p : Nat → Bool) (n : Nat) : (List.range (n + 1)).filter p = (List.range n).filter p ++ (if p n then [n] else []) := by
  rw [List.range_succ, List.filter_append]
  congr 1
  by_cases h : p n = true
  · simp [h]
  · simp [h]

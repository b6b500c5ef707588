/-! ===== the law's entry: what is known of tables and outer cells ===== -/
section
variable {s : State} {b : Nat} {A : Array Value}
theorem zs_Kn (hz : ∀ w ∈ zbig, w.before A s = true) : ∃ D : va_G, ∀ (c : Nat) (q : vw_C), vwCl[c]? = some q → u_Kn s q.1 q.2.1 q.2.2 (D.1 c) (D.2 c) := by
  have h0 : ∀ k : Nat, ∃ q : ClassId × (Nat → Nat), ∀ r, vwCl[k]? = some r → u_Kn s r.1 r.2.1 r.2.2 q.1 q.2 := by
    intro k
    match k with
    | 0 => obtain ⟨c, i, h⟩ := u_known hz wX0 (hz _ qX0.1); exact ⟨(c, i), fun r hr => by cases hr; exact h⟩
    | 1 => obtain ⟨c, i, h⟩ := u_known hz wX1 (hz _ qX1.1); exact ⟨(c, i), fun r hr => by cases hr; exact h⟩
    | 2 => obtain ⟨c, i, h⟩ := u_known hz wX2 (hz _ qX2.1); exact ⟨(c, i), fun r hr => by cases hr; exact h⟩
    | 3 => obtain ⟨c, i, h⟩ := u_known hz wX3 (hz _ qX3.1); exact ⟨(c, i), fun r hr => by cases hr; exact h⟩
    | 4 => obtain ⟨c, i, h⟩ := u_known hz wX4 (hz _ qX4.1); exact ⟨(c, i), fun r hr => by cases hr; exact h⟩
    | 5 => obtain ⟨c, i, h⟩ := u_known hz wX5 (hz _ qX5.1); exact ⟨(c, i), fun r hr => by cases hr; exact h⟩
    | 6 => obtain ⟨c, i, h⟩ := u_known hz wX6 (hz _ qX6.1); exact ⟨(c, i), fun r hr => by cases hr; exact h⟩
    | 7 => obtain ⟨c, i, h⟩ := u_known hz wX7 (hz _ qX7.1); exact ⟨(c, i), fun r hr => by cases hr; exact h⟩
    | 8 => obtain ⟨c, i, h⟩ := u_known hz wX8 (hz _ qX8.1); exact ⟨(c, i), fun r hr => by cases hr; exact h⟩
    | 9 => obtain ⟨c, i, h⟩ := u_known hz wX9 (hz _ qX9.1); exact ⟨(c, i), fun r hr => by cases hr; exact h⟩
    | 10 => obtain ⟨c, i, h⟩ := u_known hz wX10 (hz _ qX10.1); exact ⟨(c, i), fun r hr => by cases hr; exact h⟩
    | 11 => obtain ⟨c, i, h⟩ := u_known hz wX11 (hz _ qX11.1); exact ⟨(c, i), fun r hr => by cases hr; exact h⟩
    | 12 => obtain ⟨c, i, h⟩ := u_known hz wX12 (hz _ qX12.1); exact ⟨(c, i), fun r hr => by cases hr; exact h⟩
    | k + 13 => obtain ⟨c, i, h⟩ := u_known hz wX0 (hz _ qX0.1); exact ⟨(c, i), fun r hr => by simp at hr⟩
  obtain ⟨f, hf⟩ := Classical.axiomOfChoice h0
  exact ⟨(fun k => (f k).1, fun k => (f k).2), fun c q hq => hf c q hq⟩
theorem zs_row {ty : FieldType} (ht : ty = .int ∨ ty = .byte ∨ ty = .boolean ∨ ty = .long) (h : (Cond.arrayClass ty).before A s = true) : ∃ cA, ArrOfT s cA ty ∧ va_RA s cA ty := by
  obtain ⟨c, k, comp, h1, h2, h3⟩ := Cond.arrayClass_spec (args := A) (first := s) (o := none) (s := s) (idx := []) h
  refine ⟨c, fun n z => ⟨(fun k h => by cases h), k, h2, comp, h3⟩, ?_⟩
  rcases ht with rfl | rfl | rfl | rfl <;> exact h1
theorem zs_obj {C : String} (h : (Cond.arrayOver (.object C)).before A s = true) : ∃ cA, ArrOfT s cA (.object C) ∧ va_RA s cA (.object C) := by
  obtain ⟨comp, c, k, h1, -, h3, h4, h5⟩ := Cond.arrayOver_spec (args := A) (first := s) (o := none) (s := s) (idx := []) h
  exact ⟨c, fun n z => ⟨(fun k h => by cases h), k, h3, comp, h4⟩, k, comp, h3, h4, h1, h5⟩
def zAdr (b t u : Nat) (aK aV : Nat → Nat) (k : Nat) : Nat := match k with
  | 0 => b
  | 1 => t
  | 2 => aK 0
  | 3 => aK 1
  | 4 => aV 0
  | 5 => aV 1
  | _ => u
def zTm (i : Nat) : Term := match i with
  | 0 => .string "BallotRing$Tape" 28
  | _ => .string "BallotRing$Tape" 99
abbrev zGv : List Cond := flatC (Jvm.Cond.and given_1 narrow_1)
abbrev zBd : Term := .static "BallotRing" "BINDING" "[I"
theorem zg_bel : ∀ j, j < 12 → Cond.eq (.elem zBd (.int (Int32.ofNat j))) (.int (zbind j)) ∈ zGv := by decide +kernel
theorem zg_tel0 : ∀ j, j < 99 → Cond.eq (.elem (.field (.string "BallotRing$Tape" 28) "java/lang/String" "value" "[B") (.int (Int32.ofNat j))) (.int ((zbyt.getD 0 []).getD j 0)) ∈ zGv := by decide +kernel
theorem zg_tel1 : ∀ j, j < 8 → Cond.eq (.elem (.field (.string "BallotRing$Tape" 99) "java/lang/String" "value" "[B") (.int (Int32.ofNat j))) (.int ((zbyt.getD 1 []).getD j 0)) ∈ zGv := by decide +kernel
theorem zF_start (hts : ∀ w ∈ lw_tbl, w.before #[Value.ref b] s = true) (hg : (Jvm.Cond.and given_1 narrow_1).before #[Value.ref b] s = true) : ∃ G : zG, G.1 = s.heap.size ∧ G.2.2.2 0 = b ∧ zF G s s.heap := by
  have hs := flat_of_before _ hg
  have hz : ∀ w ∈ zbig, w.before #[Value.ref b] s = true := fun w hw => hts w ((List.mem_filter.mp hw).1)
  have hA : ∀ a : Nat, a < s.heap.size → ¬ (fun q : Nat => s.heap.size ≤ q) a := fun a h => Nat.not_le.mpr h
  obtain ⟨D, hD⟩ := zs_Kn hz
  obtain ⟨c0, r0, q0⟩ := zs_row (Or.inl rfl) (hz _ ac_int)
  obtain ⟨c1, r1, q1⟩ := zs_row (Or.inr (Or.inl rfl)) (hz _ ac_byte)
  obtain ⟨c2, r2, q2⟩ := zs_row (Or.inr (Or.inr (Or.inl rfl))) (hz _ ac_boolean)
  obtain ⟨c3, r3, q3⟩ := zs_row (Or.inr (Or.inr (Or.inr rfl))) (hz _ ac_long)
  have o4 := hts (.arrayOver (.object "BallotRing$Ballot")) (by decide +kernel)
  have o5 := hts (.arrayOver (.object "BallotRing$Earnest")) (by decide +kernel)
  obtain ⟨c4, r4, q4⟩ := zs_obj o4
  obtain ⟨c5, r5, q5⟩ := zs_obj o5
  obtain ⟨t, et, hT⟩ := va_Tof (args := #[Value.ref b]) (s := s) (tm := zBd) (ty := .int) (N := 12) (f := fun j => .int (zbind j)) (A := fun q : Nat => s.heap.size ≤ q) (by decide) (hs _ (by decide +kernel)) (va_eqt (hs _ (by decide +kernel))) (fun j hj => va_eqt (hs _ (zg_bel j hj))) hA
  have hB := va_Zref (A := fun q : Nat => s.heap.size ≤ q) (hts (.laysStatic "BallotRing" "BINDING" "[I") (by decide +kernel)) (hts (.initialized "BallotRing") (by decide +kernel)) et hA
  have hC := va_Zof (A := fun q : Nat => s.heap.size ≤ q) (hts (.laysStatic "java/lang/String" "COMPACT_STRINGS" "Z") (by decide +kernel)) (hts (.initialized "java/lang/String") (by decide +kernel)) (va_eqt (z := 1) (hs _ (by decide +kernel))) hA
  have hP := va_Zqof (A := fun q : Nat => s.heap.size ≤ q) (hts (.laysStatic "jdk/internal/util/Preconditions" "SIOOBE_FORMATTER" "Ljava/util/function/BiFunction;") (by decide +kernel)) (hts (.initialized "jdk/internal/util/Preconditions") (by decide +kernel)) (hs _ (by decide +kernel)) hA
  obtain ⟨aK, aV, ⟨hS, hI⟩, eS⟩ := vk_Sof (args := #[Value.ref b]) (s := s) (N := 2) (tm := zTm) (len := zlen) (byt := zbyt) (A := fun q : Nat => s.heap.size ≤ q) (by decide)
    (fun i hi => hs _ (by revert i; decide +kernel)) (fun i hi => hs _ (by revert i; decide +kernel)) (fun i hi => hs _ (by revert i; decide +kernel)) (fun i hi => hs _ (by revert i; decide +kernel))
    (fun i hi j hj => by
      obtain rfl | rfl : i = 0 ∨ i = 1 := by omega
      · exact hs _ (zg_tel0 j hj)
      · exact hs _ (zg_tel1 j hj))
    (fun i j hi hj ne => by
      obtain rfl | rfl : i = 0 ∨ i = 1 := by omega
      · obtain rfl | rfl : j = 0 ∨ j = 1 := by omega
        · exact absurd rfl ne
        · first | exact Or.inl (hs _ (by decide +kernel)) | exact Or.inr (hs _ (by decide +kernel))
      · obtain rfl | rfl : j = 0 ∨ j = 1 := by omega
        · first | exact Or.inl (hs _ (by decide +kernel)) | exact Or.inr (hs _ (by decide +kernel))
        · exact absurd rfl ne) hA
  have k2 : vk_R RX8 28 "name street voter at weight ballot if then else blank as most in fewest or and not votes blanks is " (aK 0) s := vk_R.of (A := #[Value.ref b]) (hts _ (by decide +kernel)) (eS 0 (by decide))
  have k3 : vk_R RX8 99 ";()<>=+-" (aK 1) s := vk_R.of (A := #[Value.ref b]) (hts _ (by decide +kernel)) (eS 1 (by decide))
  have main : ∀ u : Nat, (va_Z "jdk/internal/util/Preconditions" "SIOOBE_FORMATTER" "Ljava/util/function/BiFunction;" .null (fun q : Nat => s.heap.size ≤ q) s s.heap ∨ va_Z "jdk/internal/util/Preconditions" "SIOOBE_FORMATTER" "Ljava/util/function/BiFunction;" (.ref u) (fun q : Nat => s.heap.size ≤ q) s s.heap) → ∃ G : zG, G.1 = s.heap.size ∧ G.2.2.2 0 = b ∧ zF G s s.heap := by
    intro u hu
    refine ⟨(s.heap.size, (D, (fun k => match k with | 0 => c0 | 1 => c1 | 2 => c2 | 3 => c3 | 4 => c4 | _ => c5, zAdr b t u aK aV))), rfl, rfl, ⟨hD, fun k q hk => ?_⟩, fun w hw hn => va_Nw.of (by cases w <;> first | rfl | simp [zNest] at hn) (hts w hw), ⟨va_AO.of o4, va_AO.of o5⟩, ⟨hB, hT, hC, fun i hi => ?_, fun i j hi hj e => ?_⟩, k2, k3, hu⟩
    · match k, hk with
      | 0, hk => cases hk; exact ⟨r0, q0⟩
      | 1, hk => cases hk; exact ⟨r1, q1⟩
      | 2, hk => cases hk; exact ⟨r2, q2⟩
      | 3, hk => cases hk; exact ⟨r3, q3⟩
      | 4, hk => cases hk; exact ⟨r4, q4⟩
      | 5, hk => cases hk; exact ⟨r5, q5⟩
      | k + 6, hk => simp [zT] at hk
    · obtain rfl | rfl : i = 0 ∨ i = 1 := by omega
      · exact hS 0 hi
      · exact hS 1 hi
    · obtain rfl | rfl : i = 0 ∨ i = 1 := by omega
      · obtain rfl | rfl : j = 0 ∨ j = 1 := by omega
        · rfl
        · exact hI 0 1 hi hj e
      · obtain rfl | rfl : j = 0 ∨ j = 1 := by omega
        · exact hI 1 0 hi hj e
        · rfl
  rcases hP with hP | ⟨u, hP⟩
  · exact main 0 (Or.inl hP)
  · exact main u (Or.inr hP)
end

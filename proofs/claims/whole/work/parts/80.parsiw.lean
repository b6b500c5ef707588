/-! ===== a wording read: signs, and the whole of it ===== -/
section
variable {n own lim m i u : Nat} {bs : Nat → Nat} {K : zKs} {c : Nat → zOp} {I : List (Nat × Bool)} {E : List Nat} {s' : zPs}
theorem sgD_f {κ : Nat} {p : Nat × Nat} (h : sgD κ = some p) : 4 ≤ p.1 ∧ p.1 < 12 ∧ p.1 ≠ 6 ∧ bnd p.1 = p.2 ∧ 1 ≤ p.2 ∧ κ ≠ 24 ∧ κ ≠ 7 ∧ κ ≠ 30 ∧ κ ≠ 31 := by
  unfold sgD at h
  repeat' split at h
  all_goals first | (cases h; subst_vars; decide) | cases h
theorem sSg_iv {V N : Nat} (hE : wfE E) (hw : ard E + I.length ≤ 6) (A : cdI V N own m c I (opd E + 1)) (pw : I.Pairwise (fun a b => b.1 < a.1)) (hm : m + pnd E + 1 ≤ 8 * u) (m0 : 0 < m) (hu : u ≤ lim) (hl : lim ≤ 80) (h : sSg n bs E I m c i u = .inr s') : Ivs V N own lim s' ∧ i < s'.2.2.2.2.1 := by
  unfold sSg at h
  simp only [] at h
  cases hs : sgD (tk n bs i).1 with
  | some p =>
    rw [hs] at h
    obtain ⟨s, b⟩ := p
    dsimp only at h
    have f := sgD_f hs
    dsimp only at f
    have b1 : 1 ≤ (if b = 4 then 5 else b) := by split <;> omega
    obtain ⟨r1, r2, r3, r4, r5, r6⟩ := stl_i b1 E m c hE (by omega) (by omega) A
    by_cases nq : b = 4 ∧ bnd ((stl (if b = 4 then 5 else b) E m c).1.headD 0) = 4
    · rw [if_pos nq] at h
      cases h
    · rw [if_neg nq] at h
      cases h
      have top : bnd ((stl (if b = 4 then 5 else b) E m c).1.headD 0) < bnd s := by
        rw [f.2.2.2.1]
        by_cases z : b = 4
        · rw [if_pos z] at r5 nq ⊢
          have : ¬ bnd ((stl 5 E m c).1.headD 0) = 4 := fun w => nq ⟨z, w⟩
          omega
        · rw [if_neg z] at r5 ⊢
          exact r5
      generalize (stl (if b = 4 then 5 else b) E m c).1 = E' at *
      generalize (stl (if b = 4 then 5 else b) E m c).2.1 = m' at *
      generalize (stl (if b = 4 then 5 else b) E m c).2.2 = c' at *
      refine ⟨⟨⟨f.2.1, r1, Or.inr (Or.inr ⟨f.1, f.2.2.1, top⟩)⟩, ?_, hu, hl, ?_, pw, fun w => ?_, fun _ => ?_, fun w => absurd (show (1 : Nat) = 2 from w) (by decide), fun w => absurd (show (1 : Nat) = 4 from w) (by decide), by show 1 ≤ 4; decide⟩, Nat.lt_succ_self i⟩
      · show ((if s = 3 ∨ s = 6 then 1 else 0) + ard E') + (if (1 : Nat) = 1 ∨ (1 : Nat) = 2 then 1 else 0) + I.length ≤ 7
        rw [if_neg (show ¬ (s = 3 ∨ s = 6) by omega), if_pos (show (1 : Nat) = 1 ∨ (1 : Nat) = 2 by decide)]; omega
      · show cdI V N own m' c' I (if (1 : Nat) = 1 then (if 4 ≤ s ∧ s ≠ 6 then 1 else 0) + opd E' else _)
        rw [if_pos rfl, if_pos ⟨f.1, f.2.2.1⟩, Nat.add_comm]; exact r3
      · have w' : (1 : Nat) = 0 ∨ (1 : Nat) = 3 ∨ (1 : Nat) = 4 := w
        omega
      · show m' + ((if 4 ≤ s then 1 else 0) + pnd E') ≤ 8 * u + (if s = 6 then nrn E' + 1 else 0)
        rw [if_pos f.1, if_neg f.2.2.1]; omega
  | none =>
    rw [hs] at h
    dsimp only at h
    obtain ⟨r1, r2, r3, r4, r5, r6⟩ := stl_i (Nat.le_refl 1) E m c hE (by omega) (by omega) A
    generalize (stl 1 E m c).1 = E' at *
    generalize (stl 1 E m c).2.1 = m' at *
    generalize (stl 1 E m c).2.2 = c' at *
    split at h
    · cases E' with
      | nil => cases h
      | cons e E' =>
        by_cases z : e = 3
        · subst z
          cases h
          have aE : ard (3 :: E') = 1 + ard E' := rfl
          refine ⟨⟨r1.2.1, ?_, hu, hl, ?_, pw, fun w => ?_, fun w => absurd (show (2 : Nat) = 1 from w) (by decide), fun _ => ?_, fun w => absurd (show (2 : Nat) = 4 from w) (by decide), by show 2 ≤ 4; decide⟩, Nat.lt_succ_self i⟩
          · show ard E' + (if (2 : Nat) = 1 ∨ (2 : Nat) = 2 then 1 else 0) + I.length ≤ 7
            rw [if_pos (by decide)]; omega
          · show cdI V N own m' c' I (if (2 : Nat) = 1 then _ else if (2 : Nat) = 2 then opd E' + 1 else 0)
            rw [if_neg (by decide), if_pos rfl]
            have e0 : opd (3 :: E') = 0 + opd E' := rfl
            rw [e0, Nat.zero_add] at r3
            exact r3
          · have w' : (2 : Nat) = 0 ∨ (2 : Nat) = 3 ∨ (2 : Nat) = 4 := w
            omega
          · have e0 : pnd (3 :: E') = 0 + pnd E' := rfl
            exact ⟨by show m' + pnd E' + 1 ≤ 8 * u; omega, by show 0 < m'; omega⟩
        · split at h
          · rename_i w; exact absurd (List.cons.inj w).1 z
          · cases h
    · split at h
      · cases E' with
        | nil =>
          cases h
          have e0 : opd [] = 0 := rfl
          rw [e0] at r3
          have am : ∀ p ∈ I, p.1 < m' := fun p hp => by
            obtain ⟨H, x0, x1, x2, x3⟩ := r3
            exact (x3 p.1 p.2 hp).1
          refine ⟨⟨trivial, ?_, hu, hl, ?_, List.pairwise_cons.mpr ⟨am, pw⟩, fun _ => ⟨rfl, ?_⟩, fun w => absurd (show (0 : Nat) = 1 from w) (by decide), fun w => absurd (show (0 : Nat) = 2 from w) (by decide), fun w => absurd (show (0 : Nat) = 4 from w) (by decide), by show 0 ≤ 4; decide⟩, Nat.lt_succ_self i⟩
          · show 0 + (if (0 : Nat) = 1 ∨ (0 : Nat) = 2 then 1 else 0) + (I.length + 1) ≤ 7
            rw [if_neg (by decide)]; omega
          · show cdI V N own (m' + 1) (pE c' m' (3, 0, 0)) ((m', true) :: I) (if (0 : Nat) = 1 then _ else if (0 : Nat) = 2 then _ else 0)
            rw [if_neg (by decide), if_neg (by decide)]
            exact cdI_j r3
          · have e1 : pnd [] = 0 := rfl
            show m' + 1 ≤ 8 * u
            omega
        | cons e E' => cases h
      · cases h
/-- a turn -/
theorem stp_iv {s : zPs} (O : kyO K) (J : Ivs K.2.2.1 K.1.1 own lim s) (h4 : s.1 ≠ 4) (h : stp n bs K own lim s = .inr s') : Ivs K.2.2.1 K.1.1 own lim s' ∧ (s'.1 ≠ 4 → s.2.2.2.2.1 < s'.2.2.2.2.1) ∧ s.2.2.2.2.1 ≤ s'.2.2.2.2.1 := by
  obtain ⟨ph, E, I, ⟨m, c⟩, i, u⟩ := s
  obtain ⟨jE, jw, ju, jl, jA, jp, j0, j1, j2, j4, j5⟩ := J
  dsimp only at jE ju jA jp j0 j1 j2 j4 j5 h4
  have ew : wth (ph, E, I, (m, c), (i, u)) = ard E + (if ph = 1 ∨ ph = 2 then 1 else 0) + I.length := rfl
  rw [ew] at jw
  unfold stp at h
  dsimp only at h
  by_cases z0 : ph = 0
  · subst z0
    rw [if_pos rfl] at h
    rw [if_neg (by decide), if_neg (by decide)] at jA
    rw [if_neg (by decide)] at jw
    have e := j0 (Or.inl rfl)
    split at h
    · split at h
      · cases h
      · rename_i nl
        cases h
        refine ⟨⟨trivial, ?_, ju, jl, ?_, jp, fun w => ?_, fun _ => by show m + 0 ≤ 8 * u + 0; omega, fun w => absurd (show (1 : Nat) = 2 from w) (by decide), fun w => absurd (show (1 : Nat) = 4 from w) (by decide), by show 1 ≤ 4; decide⟩, fun _ => Nat.lt_succ_self i, Nat.le_succ i⟩
        · show 0 + (if (1 : Nat) = 1 ∨ (1 : Nat) = 2 then 1 else 0) + I.length ≤ 7
          rw [if_pos (by decide)]; omega
        · show cdI _ _ own m c I (if (1 : Nat) = 1 then 0 else _)
          rw [if_pos rfl]; exact jA
        · have w' : (1 : Nat) = 0 ∨ (1 : Nat) = 3 ∨ (1 : Nat) = 4 := w
          omega
    · have r := sMk_iv O jA jp (by omega) e.2 ju jl h
      exact ⟨r.1, fun _ => r.2, Nat.le_of_lt r.2⟩
  · rw [if_neg z0] at h
    by_cases z1 : ph = 1
    · subst z1
      rw [if_pos rfl] at h jA
      rw [if_pos (by decide)] at jw
      have r := sUn_iv O jE (by omega) jA jp (j1 rfl) ju jl h
      exact ⟨r.1, fun _ => r.2, Nat.le_of_lt r.2⟩
    · rw [if_neg z1] at h jA
      by_cases z2 : ph = 2
      · subst z2
        rw [if_pos rfl] at h jA
        rw [if_pos (by decide)] at jw
        have r := sSg_iv jE (by omega) jA jp (j2 rfl).1 (j2 rfl).2 ju jl h
        exact ⟨r.1, fun _ => r.2, Nat.le_of_lt r.2⟩
      · rw [if_neg z2] at h jA
        have e := j0 (by omega)
        exact sEl_iv I jA jp (by omega) e.2 ju jl h
/-- at its end -/
theorem Ivs_ok {V N : Nat} {s : zPs} (J : Ivs V N own lim s) (h4 : s.1 = 4) : okC V N own s.2.2.2.1.1 s.2.2.2.1.2 := by
  obtain ⟨ph, E, I, ⟨m, c⟩, i, u⟩ := s
  obtain ⟨jE, jw, ju, jl, jA, jp, j0, j1, j2, j4, j5⟩ := J
  dsimp only at jA j0 j4 h4 ju
  subst h4
  rw [if_neg (by decide), if_neg (by decide), j4 rfl] at jA
  have := (j0 (by decide)).2
  have hm : m ≤ 640 := by omega
  exact cdI_ok jA hm
/-- at its beginning -/
theorem Ivs_0 {V N : Nat} {c : Nat → zOp} (hl : lim ≤ 80) : Ivs V N own lim (0, [], [], (0, c), (i, 0)) := by
  refine ⟨trivial, by show 0 ≤ 7; decide, Nat.zero_le _, hl, ?_, List.Pairwise.nil, fun _ => ⟨rfl, Nat.zero_le _⟩, fun w => absurd (show (0 : Nat) = 1 from w) (by decide), fun w => absurd (show (0 : Nat) = 2 from w) (by decide), fun w => absurd (show (0 : Nat) = 4 from w) (by decide), by show 0 ≤ 4; decide⟩
  exact ⟨fun _ => 0, rfl, rfl, fun j hj => absurd hj (Nat.not_lt_zero _), fun j b hb => absurd hb List.not_mem_nil⟩
/-- there's no fault at the end of all tokens but here -/
theorem tkN_20 {t : zTk} {k : Nat → Nat} {m v : Nat} {bar : Nat → Bool} (h : tkN t k m bar = .inr v) : t.1 ≠ 30 ∧ t.1 ≠ 31 := by
  have := (tkN_lt h).2.2
  omega
end

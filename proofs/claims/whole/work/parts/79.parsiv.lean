/-! ===== a wording read: each turn keeps it ===== -/
section
variable {n own lim m i u : Nat} {bs : Nat → Nat} {K : zKs} {c : Nat → zOp} {I : List (Nat × Bool)} {E : List Nat} {s' : zPs}
theorem mk_iv {o : zOp} {i' V N : Nat} (A : cdI V N own m c I 0) (pw : I.Pairwise (fun a b => b.1 < a.1)) (hI : I.length ≤ 7) (hm : m ≤ 8 * u) (hu : u ≤ lim) (hl : lim ≤ 80) (ne : u ≠ lim) (ho : ∀ H : Nat → Nat, H m = 0 → H (m + 1) = 0 → okO V N own (m + 1) m H o) : Ivs V N own lim (3, [], I, (m + 1, pE c m o), (i', u + 1)) := by
  refine ⟨trivial, ?_, by show u + 1 ≤ lim; omega, hl, ?_, pw, fun _ => ⟨rfl, by show m + 1 ≤ 8 * (u + 1); omega⟩, fun w => absurd (show (3 : Nat) = 1 from w) (by decide), fun w => absurd (show (3 : Nat) = 2 from w) (by decide), fun w => absurd (show (3 : Nat) = 4 from w) (by decide), by show 3 ≤ 4; decide⟩
  · show 0 + (if (3 : Nat) = 1 ∨ (3 : Nat) = 2 then 1 else 0) + I.length ≤ 7
    rw [if_neg (by decide)]; omega
  · show cdI V N own (m + 1) (pE c m o) I (if (3 : Nat) = 1 then _ else if (3 : Nat) = 2 then _ else 0)
    rw [if_neg (by decide), if_neg (by decide)]
    exact cdI_e A (by decide) (fun _ => rfl) ho
theorem sMk_iv (O : kyO K) (A : cdI K.2.2.1 K.1.1 own m c I 0) (pw : I.Pairwise (fun a b => b.1 < a.1)) (hI : I.length ≤ 7) (hm : m ≤ 8 * u) (hu : u ≤ lim) (hl : lim ≤ 80) (h : sMk n bs K own lim I m c i u = .inr s') : Ivs K.2.2.1 K.1.1 own lim s' ∧ i < s'.2.2.2.2.1 := by
  have O4 := O.2.1.1
  unfold sMk at h
  simp only [] at h
  split at h
  · split at h
    · cases h
    · rename_i q ne
      cases z : tkN (tk n bs i) K.1.2 K.1.1 (fun _ => false) with
      | inl e => rw [z] at h; cases h
      | inr v =>
        rw [z] at h
        cases h
        have v1 := (tkN_lt z).1
        exact ⟨mk_iv A pw hI hm hu hl ne (fun H h1 h2 => Or.inr (Or.inr (Or.inr (Or.inr (Or.inr (Or.inl ⟨rfl, h1, h2, rfl, by show v + 1 ≤ _; omega⟩)))))), Nat.lt_succ_self i⟩
  · split at h
    · split at h
      · cases h
      · rename_i ne
        cases h
        exact ⟨mk_iv A pw hI hm hu hl ne (fun H h1 h2 => Or.inr (Or.inr (Or.inr (Or.inr (Or.inr (Or.inl ⟨rfl, h1, h2, rfl, Nat.zero_le _⟩)))))), Nat.lt_succ_self i⟩
    · split at h
      · split at h
        · cases h
        · rename_i ne
          cases z : tkN (tk n bs (i + 1)) K.2.2.2 K.2.2.1 (fun v => v == own) with
          | inl e => rw [z] at h; cases h
          | inr v =>
            rw [z] at h
            cases h
            have v1 := tkN_lt z
            exact ⟨mk_iv A pw hI hm hu hl ne (fun H h1 h2 => Or.inr (Or.inr (Or.inr (Or.inr (Or.inr (Or.inr (Or.inl ⟨rfl, h1, h2, rfl, v1.1, by simpa using v1.2.1⟩))))))), by show i < i + 2; omega⟩
      · split at h
        · split at h
          · cases h
          · rename_i ne
            cases z : srB n bs K (i + 1) with
            | inl e => rw [z] at h; cases h
            | inr p =>
              rw [z] at h
              cases h
              have p1 := srB_lt z
              refine ⟨mk_iv A pw hI hm hu hl ne (fun H h1 h2 => Or.inr (Or.inr (Or.inr (Or.inr (Or.inr (Or.inr (Or.inr (Or.inl ⟨?_, h1, h2, by show p.2 ≤ 4; omega, rfl⟩)))))))), by show i < p.1; omega⟩
              show (if (tk n bs i).1 = 11 then 14 else 15) = 14 ∨ (if (tk n bs i).1 = 11 then 14 else 15) = 15
              split
              · exact Or.inl rfl
              · exact Or.inr rfl
        · cases h
theorem sEl_iv {V N : Nat} : ∀ (I : List (Nat × Bool)), cdI V N own m c I 0 → I.Pairwise (fun a b => b.1 < a.1) → I.length ≤ 7 → m ≤ 8 * u → u ≤ lim → lim ≤ 80 → sEl n bs I m c i u = .inr s' → Ivs V N own lim s' ∧ (s'.1 ≠ 4 → i < s'.2.2.2.2.1) ∧ i ≤ s'.2.2.2.2.1
  | [], A, pw, hI, hm, hu, hl, h => by
    cases h
    refine ⟨⟨trivial, ?_, hu, hl, ?_, pw, fun _ => ⟨rfl, hm⟩, fun w => absurd (show (4 : Nat) = 1 from w) (by decide), fun w => absurd (show (4 : Nat) = 2 from w) (by decide), fun _ => rfl, Nat.le_refl 4⟩, fun w => absurd rfl w, Nat.le_refl i⟩
    · show 0 + (if (4 : Nat) = 1 ∨ (4 : Nat) = 2 then 1 else 0) + 0 ≤ 7
      rw [if_neg (by decide)]; decide
    · show cdI V N own m c [] (if (4 : Nat) = 1 then _ else if (4 : Nat) = 2 then _ else 0)
      rw [if_neg (by decide), if_neg (by decide)]
      exact A
  | (j, false) :: I, A, pw, hI, hm, hu, hl, h => sEl_iv I (cdI_t A rfl) (List.pairwise_cons.mp pw).2 (by have : I.length + 1 ≤ 7 := hI; omega) hm hu hl h
  | (j, true) :: I, A, pw, hI, hm, hu, hl, h => by
    rw [sEl] at h
    split at h
    · cases h
      have pc := List.pairwise_cons.mp pw
      refine ⟨⟨trivial, ?_, hu, hl, ?_, List.pairwise_cons.mpr ⟨pc.1, pc.2⟩, fun _ => ⟨rfl, hm⟩, fun w => absurd (show (0 : Nat) = 1 from w) (by decide), fun w => absurd (show (0 : Nat) = 2 from w) (by decide), fun w => absurd (show (0 : Nat) = 4 from w) (by decide), by show 0 ≤ 4; decide⟩, fun _ => Nat.lt_succ_self i, Nat.le_succ i⟩
      · show 0 + (if (0 : Nat) = 1 ∨ (0 : Nat) = 2 then 1 else 0) + (I.length + 1) ≤ 7
        rw [if_neg (by decide)]
        have : I.length + 1 ≤ 7 := hI
        omega
      · show cdI V N own m (pE c j (3, 0, m)) ((j, false) :: I) (if (0 : Nat) = 1 then _ else if (0 : Nat) = 2 then _ else 0)
        rw [if_neg (by decide), if_neg (by decide)]
        exact cdI_p A (fun b hb => by have : j < j := pc.1 (j, b) hb; omega)
    · cases h
theorem un_iv {o : zOp} {i' V N : Nat} (hE : wfE E) (hw : ard E + I.length ≤ 6) (A : cdI V N own m c I (opd E)) (pw : I.Pairwise (fun a b => b.1 < a.1)) (hm : m + pnd E ≤ 8 * u + nrn E) (hu : u ≤ lim) (hl : lim ≤ 80) (ne : u ≠ lim) (ho : ∀ H : Nat → Nat, H (m + 1) = H m + 1 → okO V N own (m + 1) m H o) : Ivs V N own lim (2, E, I, (m + 1, pE c m o), (i', u + 1)) := by
  have nr := nrn_le E
  have o35 := (opd_35 hE (by omega)).1
  refine ⟨hE, ?_, by show u + 1 ≤ lim; omega, hl, ?_, pw, fun w => ?_, fun w => absurd (show (2 : Nat) = 1 from w) (by decide), fun _ => ⟨by show m + 1 + pnd E + 1 ≤ 8 * (u + 1); omega, Nat.succ_pos m⟩, fun w => absurd (show (2 : Nat) = 4 from w) (by decide), by show 2 ≤ 4; decide⟩
  · show ard E + (if (2 : Nat) = 1 ∨ (2 : Nat) = 2 then 1 else 0) + I.length ≤ 7
    rw [if_pos (by decide)]; omega
  · show cdI V N own (m + 1) (pE c m o) I (if (2 : Nat) = 1 then opd E else if (2 : Nat) = 2 then opd E + 1 else 0)
    rw [if_neg (by decide), if_pos rfl]
    obtain ⟨H, a0, am, aj, ai⟩ := id A
    refine cdI_e A (by omega) (fun z => by rw [← am, z]; exact a0) (fun H' h1 h2 => ho H' (by omega))
  · have w' : (2 : Nat) = 0 ∨ (2 : Nat) = 3 ∨ (2 : Nat) = 4 := w
    omega
theorem sUn_iv (O : kyO K) (hE : wfE E) (hw : ard E + I.length ≤ 6) (A : cdI K.2.2.1 K.1.1 own m c I (opd E)) (pw : I.Pairwise (fun a b => b.1 < a.1)) (hm : m + pnd E ≤ 8 * u + nrn E) (hu : u ≤ lim) (hl : lim ≤ 80) (h : sUn n bs K own lim E I m c i u = .inr s') : Ivs K.2.2.1 K.1.1 own lim s' ∧ i < s'.2.2.2.2.1 := by
  have O4 := O.2.1.1
  have nr := nrn_le E
  unfold sUn at h
  simp only [] at h
  split at h
  · split at h
    · cases h
    · rename_i q ne
      cases h
      have w7 : ¬ wth (1, E, I, (m, c), (i, u)) = 7 := fun w => ne (Or.inr w)
      have e7 : wth (1, E, I, (m, c), (i, u)) = ard E + 1 + I.length := by
        show ard E + (if (1 : Nat) = 1 ∨ (1 : Nat) = 2 then 1 else 0) + I.length = _
        rw [if_pos (by decide)]
      refine ⟨⟨⟨by decide, hE, Or.inr (Or.inl ⟨rfl, by omega⟩)⟩, ?_, hu, hl, ?_, pw, fun w => ?_, fun _ => ?_, fun w => absurd (show (1 : Nat) = 2 from w) (by decide), fun w => absurd (show (1 : Nat) = 4 from w) (by decide), by show 1 ≤ 4; decide⟩, Nat.lt_succ_self i⟩
      · show (1 + ard E) + (if (1 : Nat) = 1 ∨ (1 : Nat) = 2 then 1 else 0) + I.length ≤ 7
        rw [if_pos (by decide)]; omega
      · show cdI _ _ own m c I (if (1 : Nat) = 1 then 0 + opd E else _)
        rw [if_pos rfl, Nat.zero_add]; exact A
      · have w' : (1 : Nat) = 0 ∨ (1 : Nat) = 3 ∨ (1 : Nat) = 4 := w
        omega
      · show m + (1 + pnd E) ≤ 8 * u + (nrn E + 1)
        omega
  · split at h
    · split at h
      · cases h
      · rename_i ne
        cases h
        have w7 : ¬ wth (1, E, I, (m, c), (i, u)) = 7 := fun w => ne (Or.inr w)
        have e7 : wth (1, E, I, (m, c), (i, u)) = ard E + 1 + I.length := by
          show ard E + (if (1 : Nat) = 1 ∨ (1 : Nat) = 2 then 1 else 0) + I.length = _
          rw [if_pos (by decide)]
        have nl : ¬ u = lim := fun w => ne (Or.inl w)
        refine ⟨⟨⟨by decide, hE, Or.inl rfl⟩, ?_, by show u + 1 ≤ lim; omega, hl, ?_, pw, fun w => ?_, fun _ => ?_, fun w => absurd (show (1 : Nat) = 2 from w) (by decide), fun w => absurd (show (1 : Nat) = 4 from w) (by decide), by show 1 ≤ 4; decide⟩, Nat.lt_succ_self i⟩
        · show (1 + ard E) + (if (1 : Nat) = 1 ∨ (1 : Nat) = 2 then 1 else 0) + I.length ≤ 7
          rw [if_pos (by decide)]; omega
        · show cdI _ _ own m c I (if (1 : Nat) = 1 then 0 + opd E else _)
          rw [if_pos rfl, Nat.zero_add]; exact A
        · have w' : (1 : Nat) = 0 ∨ (1 : Nat) = 3 ∨ (1 : Nat) = 4 := w
          omega
        · show m + (0 + pnd E) ≤ 8 * (u + 1) + 0
          omega
    · split at h
      · split at h
        · cases h
        · rename_i q ne
          cases h
          have x4 := (tk_o (n := n) (bs := bs) i).2.2.2.1 q
          exact ⟨un_iv hE hw A pw hm hu hl ne (fun H h1 => Or.inl ⟨rfl, h1, by show (tk n bs i).2.2.1 ≤ 9999; omega, rfl⟩), Nat.lt_succ_self i⟩
      · split at h
        · split at h
          · cases h
          · rename_i ne
            cases z : tkN (tk n bs (i + 1)) K.1.2 K.1.1 (fun _ => false) with
            | inl e => rw [z] at h; cases h
            | inr v =>
              rw [z] at h
              dsimp only at h
              cases y : srB n bs K (i + 2) with
              | inl e => rw [y] at h; cases h
              | inr p =>
                rw [y] at h
                cases h
                have v1 := (tkN_lt z).1
                have p1 := srB_lt y
                exact ⟨un_iv hE hw A pw hm hu hl ne (fun H h1 => Or.inr (Or.inl ⟨rfl, h1, by show p.2 ≤ 4; omega, by show v + 1 ≤ _; omega⟩)), by show i < p.1; omega⟩
        · split at h
          · split at h
            · cases h
            · rename_i ne
              cases y : srB n bs K (i + 1) with
              | inl e => rw [y] at h; cases h
              | inr p =>
                rw [y] at h
                cases h
                have p1 := srB_lt y
                exact ⟨un_iv hE hw A pw hm hu hl ne (fun H h1 => Or.inr (Or.inl ⟨rfl, h1, by show p.2 ≤ 4; omega, Nat.zero_le _⟩)), by show i < p.1; omega⟩
          · split at h
            · split at h
              · cases h
              · rename_i ne
                cases z : tkN (tk n bs (i + 1)) K.2.2.2 K.2.2.1 (fun v => v == own) with
                | inl e => rw [z] at h; cases h
                | inr v =>
                  rw [z] at h
                  dsimp only at h
                  cases y : tkN (tk n bs (i + 2)) K.1.2 K.1.1 (fun _ => false) with
                  | inl e => rw [y] at h; cases h
                  | inr w =>
                    rw [y] at h
                    cases h
                    have v1 := tkN_lt z
                    have w1 := (tkN_lt y).1
                    exact ⟨un_iv hE hw A pw hm hu hl ne (fun H h1 => Or.inr (Or.inr (Or.inl ⟨rfl, h1, by show w + 1 ≤ _; omega, Nat.succ_pos w, v1.1, by simpa using v1.2.1⟩))), by show i < i + 3; omega⟩
            · cases h
end

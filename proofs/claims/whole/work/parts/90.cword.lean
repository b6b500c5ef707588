/-! ===== the class's reader: a wording ===== -/
section
variable {h h' : zH} {Q : Option Value → zH → Prop} {n tc own lim ot t : Nat} {bs : Nat → Nat} {K : zKs}
theorem s4_words (O : kyO K) (hl : ot + lim = 80) : ∀ (d tn : Nat) (s : zPs) (h : zH), tn + d = 1602 → (s.1 ≠ 4 → tn ≤ s.2.2.2.2.1) → tn ≤ s.2.2.2.2.1 + 1 → cEv h t K own → Ivs K.2.2.1 K.1.1 own lim s → cSt h n bs tc ot s →
    (∀ s', prs n bs K own lim d s = .inr s' → s'.1 = 4 → Ivs K.2.2.1 K.1.1 own lim s' → ∀ h', fr XP YX h h' → cSt h' n bs tc ot s' → Q (some (.int 1)) h') → (∀ e, prs n bs K own lim d s = .inl e → ∀ h', fr XP YX h h' → cLo h' n bs tc e → Q (some (.int 0)) h') → zX mX4_readWording 4 [.ref 1, .int (nI s.1), .int (nI tn)] [] h Q := by
  intro d
  induction d with
  | zero =>
    intro tn s h hd t1 t2 V J X H1 H2
    have ic := X.1.1.2.2.1
    have c16 := X.1.1.2.1.2.1
    omega
  | succ d ih =>
    intro tn s h hd t1 t2 V J X H1 H2
    have ic := X.1.1.2.2.1
    have c16 := X.1.1.2.1.2.1
    have o1 := X.1.1.1.1
    have p4 := J.2.2.2.2.2.2.2.2.2.2
    rw [prs] at H1 H2
    by_cases z : s.1 = 4
    · rw [if_pos z] at H1
      have a87 : zX mX4_readWording 87 [.ref 1, .float 0, .float 0] [] h Q := bX4_readWording_87 _ _ _ ⟨o1, br_t X.1.2.1 (H1 s rfl z J h fr.rf X)⟩
      rw [z]
      exact bX4_readWording_4 _ _ _ _ _ ⟨fun _ => a87, fun _ => ⟨o1, br_t X.1.2.1 (br_t rfl a87)⟩⟩
    · rw [if_neg z] at H1 H2
      have tn16 := t1 z
      have nx : ∀ s', stp n bs K own lim s = .inr s' → ∀ h', fr XP YX h h' → cSt h' n bs tc ot s' → zX mX4_readWording 4 [.ref 1, .int (nI s'.1), .int (nI tn + 1)] [] h' Q := fun s' es h' F' X' => by
        rw [es] at H1 H2
        have iv := stp_iv O J z es
        rw [nI_1]
        exact ih (tn + 1) s' h' (by omega) (fun w => by have := iv.2.1 w; omega) (by have := iv.2.2; omega) (V.fr (X := []) F') iv.1 X' (fun s2 e2 w4 J2 h2 F2 X2 => H1 s2 e2 w4 J2 h2 (F'.tr F2) X2) (fun e ee h2 F2 L2 => H2 e ee h2 (F'.tr F2) L2)
      have ft : ∀ e, stp n bs K own lim s = .inl e → ∀ h' (x : Int32), fr XP YX h h' → cLo h' n bs tc e → zX mX4_readWording 4 [.ref 1, .int x, .int (nI tn + 1)] [] h' Q := fun e es h' x F' L' => by
        rw [es] at H2
        have a87 : zX mX4_readWording 87 [.ref 1, .float 0, .float 0] [] h' Q := bX4_readWording_87 _ _ _ ⟨L'.l.1, br_f L'.ng (H2 e rfl h' F' L')⟩
        exact bX4_readWording_4 _ _ _ _ _ ⟨fun _ => a87, fun _ => ⟨L'.l.1, br_f L'.ng a87⟩⟩
      refine bX4_readWording_4 _ _ _ _ _ (br_f (by rw [nI_lit 1601]; exact nI_nlt (by omega) (by decide)) ⟨o1, br_t X.1.2.1 (br_f (fun w => z ((nI_eq (by omega) (by decide)).mp w)) ?_)⟩)
      obtain ⟨ph, E, I, ⟨m, c⟩, i, u⟩ := s
      obtain ⟨jE, jw, ju, jl, jA, jp, j0, j1, j2, j4, j5⟩ := id J
      dsimp only at *
      have ew : wth (ph, E, I, (m, c), (i, u)) = ard E + (if ph = 1 ∨ ph = 2 then 1 else 0) + I.length := rfl
      rw [ew] at jw
      have nr := nrn_le E
      have ai : ∀ j b, (j, b) ∈ I → j < m ∧ (b = true → c j = (3, 0, 0)) := fun j b hb => by
        obtain ⟨H, x0, x1, x2, x3⟩ := jA
        exact ⟨(x3 j b hb).1, fun w => ((x3 j b hb).2 w).1⟩
      refine ⟨fun q => ?_, fun q => ?_, fun q => ?_, fun q0 q1 q2 => ?_⟩
      · have e : ph = 0 := (nI_eq (b := 0) (by omega) (by decide)).mp q
        subst e
        have j := j0 (Or.inl rfl)
        rw [if_neg (by decide)] at jw
        have E0 := j.1
        subst E0
        exact bX4_readWording_52 _ _ _ _ ⟨o1, s4_readStart O (by omega) (by omega) ju hl V X (fun s' es h' F' X' => ⟨_, rfl, nx s' es h' F' X'⟩) (fun e es h' x F' L' => ⟨_, rfl, ft e es h' x F' L'⟩)⟩
      · have e : ph = 1 := (nI_eq (b := 1) (by omega) (by decide)).mp q
        subst e
        rw [if_pos (by decide)] at jw
        have jm := j1 rfl
        exact bX4_readWording_60 _ _ _ _ ⟨o1, s4_readUnit O jE (by omega) (by omega) ju hl V X (fun s' es h' F' X' => ⟨_, rfl, nx s' es h' F' X'⟩) (fun e es h' x F' L' => ⟨_, rfl, ft e es h' x F' L'⟩)⟩
      · have e : ph = 2 := (nI_eq (b := 2) (by omega) (by decide)).mp q
        subst e
        exact bX4_readWording_68 _ _ _ _ ⟨o1, s4_readSign J X (fun s' es h' F' X' => ⟨_, rfl, nx s' es h' F' X'⟩) (fun e es h' x F' L' => ⟨_, rfl, ft e es h' x F' L'⟩)⟩
      · have e : ph = 3 := by
          have n0 : ph ≠ 0 := fun w => q0 (by rw [w]; rfl)
          have n1 : ph ≠ 1 := fun w => q1 (by rw [w]; rfl)
          have n2 : ph ≠ 2 := fun w => q2 (by rw [w]; rfl)
          omega
        subst e
        rw [if_neg (by decide)] at jw
        have j := j0 (Or.inr (Or.inl rfl))
        have E0 := j.1
        subst E0
        exact bX4_readWording_76 _ _ _ _ ⟨o1, s4_readElse (by omega) (by omega) ai X (fun s' es h' F' X' => ⟨_, rfl, nx s' es h' F' X'⟩) (fun e es h' x F' L' => ⟨_, rfl, ft e es h' x F' L'⟩)⟩
end

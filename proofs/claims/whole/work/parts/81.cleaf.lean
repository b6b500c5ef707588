/-! ===== the class's reader: small steps, exact, and behind a fault ===== -/
section
variable {h h' : zH} {Q : Option Value → zH → Prop} {n c i : Nat} {bs : Nat → Nat} {e : zFt}
/-- behind a fault -/
def cLo (h : zH) (n : Nat) (bs : Nat → Nat) (c : Nat) (e : zFt) : Prop := (∃ i, cPs h n bs c i) ∧ cFl h e
abbrev XP : List Nat := [8, 9]
abbrev YP : List (Nat × Nat) := [(1, 4), (1, 5), (1, 6), (1, 8), (1, 10), (1, 11), (2, 7), (2, 8), (2, 9), (2, 10)]
abbrev YQ : List (Nat × Nat) := [(1, 4), (1, 5), (1, 6), (1, 8), (1, 10), (1, 11)]
theorem cLo.l (L : cLo h n bs c e) : cRr h := by obtain ⟨⟨i, P⟩, E⟩ := L; exact P.1
theorem cLo.ng (L : cLo h n bs c e) : ¬ gI h 1 12 = 0 := L.2.ne
theorem cLo.fr (L : cLo h n bs c e) (F : fr XP YQ h h') : cLo h' n bs c e := by
  obtain ⟨⟨i, P⟩, E⟩ := L
  exact ⟨⟨i, P.fr F (by decide) (by decide) (by decide)⟩, E.fr F (by simp) (by simp)⟩
theorem fr_putH {X : List Nat} {Y : List (Nat × Nat)} {a : Nat} {i x : Int32} (ha : a ∈ X) : fr X Y h (putH h a i x) := by
  unfold putH
  split
  · exact fr.rf
  · split
    · exact fr.rf
    · exact fr_pI ha
theorem l4_fail {x : Int32} (L : cLo h n bs c e) (H : Q (some (.int 0)) h) : zC mX4_fail [.ref 1, .int x] h Q :=
  nX4_fail _ _ _ _ (bX4_fail_0 _ _ _ _ ⟨L.l.1, br_f L.ng H⟩)
theorem l4_take {x : Int32} (L : cLo h n bs c e) (H : Q (some (.int 0)) h) : zC mX4_take [.ref 1, .int x] h Q :=
  nX4_take _ _ _ _ (bX4_take_0 _ _ _ _ ⟨L.l.1, br_f L.ng (l4_fail (x := 2) L ⟨_, rfl, Or.inl rfl, H⟩)⟩)
theorem l4_takeKnown {row : Nat} {x y : Int32} (L : cLo h n bs c e) (H : Q (some (.int (-1))) h) : zC mX4_takeKnown [.ref 1, .ref row, .int x, .int y] h Q :=
  nX4_takeKnown _ _ _ _ _ _ (bX4_takeKnown_0 _ _ _ _ _ _ ⟨L.l.1, br_f L.ng (l4_fail (x := 2) L ⟨_, rfl, H⟩)⟩)
theorem l4_advance (L : cLo h n bs c e) (H : ∀ h', fr XP YP h h' → cLo h' n bs c e → Q none h') : zC mX8_advance [.ref 2] h Q := by
  obtain ⟨⟨i, P⟩, E⟩ := L
  refine s8_advance P.1.2.2.2.2 P.2 (fun h' F C => H h' (F.mo (by simp) (by simp)) ⟨⟨_, P.1.fr F (by simp) (by decide) (by simp) (by simp) (by simp), C⟩, E.fr F (by simp) (by simp)⟩)
theorem l4_countUnit (L : cLo h n bs c e) (H : ∀ h' x, fr XP YP h h' → cLo h' n bs c e → Q (some (.int x)) h') : zC mX4_countUnit [.ref 1] h Q := by
  refine nX4_countUnit _ _ _ (bX4_countUnit_0 _ _ _ ⟨L.l.1, fun _ h3 e3 => ?_, fun _ => l4_fail (x := 2) L ⟨_, rfl, Or.inl rfl, H h 0 fr.rf L⟩⟩)
  have F : fr XP YQ h h3 := by rw [e3]; exact fr_pF (by simp) L.l.1 rfl rfl
  exact H h3 _ (F.mo (by simp) (by simp)) (L.fr F)
/-- a step is put, wherever -/
theorem x4_addStep {x y z : Int32} (L : cRr h) (H : ∀ h3 h5, h3 = putH h 8 (gI h 1 4) ((x + ((16 : Int32) * y)) + ((256 : Int32) * z)) → h5 = pF h3 1 4 (.int ((gI h3 1 4) + (1 : Int32))) → fr XP YQ h h5 → Q none h5) : zC mX4_addStep [.ref 1, .int x, .int y, .int z] h Q := by
  refine nX4_addStep _ _ _ _ _ _ (bX4_addStep_0 _ _ _ _ _ _ ⟨L.1, _, L.2.2.1.1, s11_put L.2.2.1.2.1 (by rw [L.2.2.1.2.2]; decide) (fun h3 e3 => ⟨rfl, ?_⟩)⟩)
  have F3 : fr XP YQ h h3 := by rw [e3]; exact fr_putH (by simp)
  refine ⟨F3.o L.1, fun h5 e5 => H h3 h5 e3 e5 (F3.tr ?_)⟩
  rw [e5]; exact fr_pF (by simp) (F3.o L.1) rfl rfl
theorem l4_addStep {x y z : Int32} (L : cLo h n bs c e) (H : ∀ h', fr XP YP h h' → cLo h' n bs c e → Q none h') : zC mX4_addStep [.ref 1, .int x, .int y, .int z] h Q :=
  x4_addStep L.l (fun h3 h5 e3 e5 F => H h5 (F.mo (by simp) (by simp)) (L.fr F))
theorem x4_push18 {x : Int32} (L : cRr h) (H : ∀ h3 h5, h3 = putH h 9 (gI h 1 5) x → h5 = pF h3 1 5 (.int ((gI h3 1 5) + (1 : Int32))) → fr XP YQ h h5 → Q none h5) : zX mX4_push 18 [.ref 1, .int x] [] h Q := by
  refine bX4_push_18 _ _ _ _ ⟨L.1, _, L.2.2.2.1.1, s11_put L.2.2.2.1.2.1 (by rw [L.2.2.2.1.2.2]; decide) (fun h3 e3 => ⟨rfl, ?_⟩)⟩
  have F3 : fr XP YQ h h3 := by rw [e3]; exact fr_putH (by simp)
  refine ⟨F3.o L.1, fun h5 e5 => H h3 h5 e3 e5 (F3.tr ?_)⟩
  rw [e5]; exact fr_pF (by simp) (F3.o L.1) rfl rfl
theorem l4_push {x : Int32} (L : cLo h n bs c e) (H : ∀ h', fr XP YP h h' → cLo h' n bs c e → Q none h') : zC mX4_push [.ref 1, .int x] h Q := by
  have go := x4_push18 (x := x) (Q := Q) L.l (fun h3 h5 e3 e5 F => H h5 (F.mo (by simp) (by simp)) (L.fr F))
  exact nX4_push _ _ _ _ (bX4_push_0 _ _ _ _ ⟨L.l.1, _, L.l.2.2.2.1.1, L.l.2.2.2.1.2.1, fun _ => go, fun _ => l4_fail (x := 2) L ⟨_, rfl, go⟩⟩)
theorem l4_drop {x : Int32} (L : cLo h n bs c e) (H : ∀ h', fr XP YP h h' → cLo h' n bs c e → Q none h') : zC mX4_drop [.ref 1, .int x] h Q := by
  have at11 : zX mX4_drop 11 [.ref 1, .float 0] [] h Q := by
    refine bX4_drop_11 _ _ _ ⟨L.l.1, fun h2 e2 h4 e4 => ?_⟩
    have F2 : fr XP YQ h h2 := by rw [e2]; exact fr_pF (by simp) L.l.1 rfl rfl
    have F4 : fr XP YQ h2 h4 := by rw [e4]; exact fr_pF (by simp) (F2.o L.l.1) rfl rfl
    have F := F2.tr F4
    exact H h4 (F.mo (by simp) (by simp)) (L.fr F)
  refine nX4_drop _ _ _ _ (bX4_drop_0 _ _ _ _ ⟨fun _ => at11, fun _ => ⟨fun _ => ⟨L.l.1, fun h4 e4 => ?_⟩, fun _ => at11⟩⟩)
  have F : fr XP YQ h h4 := by rw [e4]; exact fr_pF (by simp) L.l.1 rfl rfl
  exact H h4 (F.mo (by simp) (by simp)) (L.fr F)
theorem x4_topKind (L : cRr h) (H : ∀ x, Q (some (.int x)) h) : zC mX4_topKind [.ref 1] h Q :=
  nX4_topKind _ _ _ (bX4_topKind_0 _ _ _ ⟨L.1, _, L.2.2.2.1.1, s11_at L.2.2.2.1.2.1 (by rw [L.2.2.2.1.2.2]; decide) ⟨_, rfl, H _⟩⟩)
theorem l4_enter {x : Int32} (L : cLo h n bs c e) (H : ∀ h', fr XP YP h h' → cLo h' n bs c e → Q none h') : zC mX4_enter [.ref 1, .int x] h Q := by
  have at15 : zX mX4_enter 15 [.ref 1, .int x] [] h Q := by
    refine bX4_enter_15 _ _ _ _ ⟨L.l.1, fun h2 e2 => ?_⟩
    have F2 : fr XP YQ h h2 := by rw [e2]; exact fr_pF (by simp) L.l.1 rfl rfl
    refine l4_push (L.fr F2) (fun h4 F4 L4 => ⟨rfl, L4.l.1, _, L4.l.2.1, L4.l.2.2.2.2.1.1, l4_advance L4 (fun h8 F8 L8 => ⟨rfl, H h8 ((F2.mo (by simp) (by simp)).tr (F4.tr F8)) L8⟩)⟩)
  exact nX4_enter _ _ _ _ (bX4_enter_0 _ _ _ _ ⟨L.l.1, fun _ => at15, fun _ => l4_fail (x := 2) L ⟨_, rfl, at15⟩⟩)
end

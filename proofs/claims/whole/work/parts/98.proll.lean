/-! ===== a roll read, pure ===== -/
section
/-- a ballot: how many steps, the steps, units -/
abbrev zBl : Type := Nat × ((Nat → zOp) × Nat)
/-- a roll: keys, streets and weights of voters, whose ballots are told, the ballots -/
abbrev zRl : Type := (zKs × ((Nat → Nat) × (Nat → Nat))) × ((Nat → Bool) × (Nat → zBl))
def bl0 : zBl := (0, (c00, 0))
def rl0 : zRl := ((((0, fun _ => 0), ((0, fun _ => 0), (0, fun _ => 0))), (fun _ => 0, fun _ => 0)), (fun _ => false, fun _ => bl0))
def rlU (r : zRl) : Nat := sm (fun v => (r.2.2 v).2.2) 0 8
/-- a name that is new is taken -/
def tkF (t : zTk) (k : Nat → Nat) (m : Nat) : zFt ⊕ Nat := if t.1 = 20 then (match fx k t.2.2.1 m with
    | none => .inr t.2.2.1
    | some _ => .inl (3, t.2.1)) else .inl (mpk 2 t)
section
variable (n : Nat) (bs : Nat → Nat)
/-- a token of a kind is taken -/
def tkW (k i : Nat) : zFt ⊕ Nat := if (tk n bs i).1 = k then .inr (i + 1) else .inl (mp n bs i)
/-- a weight is taken -/
def tkG (i : Nat) : zFt ⊕ Nat := if (tk n bs i).1 = 21 then (if (tk n bs i).2.2.1 < 1 ∨ 9 < (tk n bs i).2.2.1 then .inl (4, (tk n bs i).2.1) else .inr (tk n bs i).2.2.1) else .inl (mp n bs i)
def rN (r : zRl) (x : Nat) : zRl := (((((r.1.1.1.1 + 1, va_up r.1.1.1.2 r.1.1.1.1 x), r.1.1.2)), r.1.2), r.2)
def rS (r : zRl) (x : Nat) : zRl := (((r.1.1.1, ((r.1.1.2.1.1 + 1, va_up r.1.1.2.1.2 r.1.1.2.1.1 x), r.1.1.2.2)), r.1.2), r.2)
def rV (r : zRl) (x s g : Nat) : zRl := (((r.1.1.1, (r.1.1.2.1, (r.1.1.2.2.1 + 1, va_up r.1.1.2.2.2 r.1.1.2.2.1 x))), (va_up r.1.2.1 r.1.1.2.2.1 s, va_up r.1.2.2 r.1.1.2.2.1 g)), r.2)
def rB (r : zRl) (v : Nat) (b : zBl) : zRl := (r.1, (va_up r.2.1 v true, va_up r.2.2 v b))
/-- a line, but for its end -/
def lnB (r : zRl) (i : Nat) : zFt ⊕ (zRl × Nat) :=
  if (tk n bs i).1 = 0 then (if r.1.1.1.1 = 3 then .inl (mp n bs i) else match tkF (tk n bs (i + 1)) r.1.1.1.2 r.1.1.1.1 with
    | .inl e => .inl e
    | .inr x => .inr (rN r x, i + 2))
  else if (tk n bs i).1 = 1 then (if r.1.1.2.1.1 = 4 then .inl (mp n bs i) else match tkF (tk n bs (i + 1)) r.1.1.2.1.2 r.1.1.2.1.1 with
    | .inl e => .inl e
    | .inr x => .inr (rS r x, i + 2))
  else if (tk n bs i).1 = 2 then (if r.1.1.2.2.1 = 8 then .inl (mp n bs i) else match tkF (tk n bs (i + 1)) r.1.1.2.2.2 r.1.1.2.2.1 with
    | .inl e => .inl e
    | .inr x => match tkW n bs 3 (i + 2) with
      | .inl e => .inl e
      | .inr _ => match tkN (tk n bs (i + 3)) r.1.1.2.1.2 r.1.1.2.1.1 (fun _ => false) with
        | .inl e => .inl e
        | .inr s => match tkW n bs 4 (i + 4) with
          | .inl e => .inl e
          | .inr _ => match tkG n bs (i + 5) with
            | .inl e => .inl e
            | .inr g => .inr (rV r x s g, i + 6))
  else if (tk n bs i).1 = 5 then (match tkN (tk n bs (i + 1)) r.1.1.2.2.2 r.1.1.2.2.1 r.2.1 with
    | .inl e => .inl e
    | .inr v => match prs n bs r.1.1 v (80 - rlU r) 1602 (0, [], [], (0, c00), (i + 2, 0)) with
      | .inl e => .inl e
      | .inr s => .inr (rB r v (s.2.2.2.1.1, (s.2.2.2.1.2, s.2.2.2.2.2)), s.2.2.2.2.1))
  else .inl (mp n bs i)
def ln (r : zRl) (i : Nat) : zFt ⊕ (zRl × Nat) := match lnB n bs r i with
  | .inl e => .inl e
  | .inr q => if (tk n bs q.2).1 = 22 then .inr (q.1, q.2 + 1) else .inl (mp n bs q.2)
def lns : Nat → zRl → Nat → zFt ⊕ (zRl × Nat)
  | 0, r, i => .inr (r, i)
  | d + 1, r, i => if (tk n bs i).1 = 30 then .inr (r, i) else match ln n bs r i with
    | .inl e => .inl e
    | .inr q => lns d q.1 q.2
/-- no wording gets stuck -/
def lnS (r : zRl) (i : Nat) : Prop := (tk n bs i).1 = 5 → ∀ v, tkN (tk n bs (i + 1)) r.1.1.2.2.2 r.1.1.2.2.1 r.2.1 = .inr v → fuelS n bs r.1.1 v (80 - rlU r) 1602 (0, [], [], (0, c00), (i + 2, 0))
def lnsS : Nat → zRl → Nat → Prop
  | 0, _, i => (tk n bs i).1 = 30
  | d + 1, r, i => (tk n bs i).1 ≠ 30 → lnS n bs r i ∧ ∀ q, ln n bs r i = .inr q → lnsS d q.1 q.2
end
/-- what holds of a roll -/
def rlO (r : zRl) : Prop := kyO r.1.1 ∧ (∀ v, v < r.1.1.2.2.1 → r.1.2.1 v < r.1.1.2.1.1 ∧ 1 ≤ r.1.2.2 v ∧ r.1.2.2 v ≤ 9) ∧ (∀ v, r.2.1 v = true → v < r.1.1.2.2.1) ∧ (∀ v, r.2.1 v = false → r.2.2 v = bl0) ∧ (∀ v, okC r.1.1.2.2.1 r.1.1.1.1 v (r.2.2 v).1 (r.2.2 v).2.1) ∧ rlU r ≤ 80
theorem okO_VN {V N V' N' own n i : Nat} {H : Nat → Nat} {o : zOp} (hV : V ≤ V') (hN : N ≤ N') (h : okO V N own n i H o) : okO V' N' own n i H o := by
  rcases h with h | h | h | h | h | h | h | h | h
  · exact Or.inl h
  · exact Or.inr (Or.inl ⟨h.1, h.2.1, h.2.2.1, Nat.le_trans h.2.2.2 hN⟩)
  · exact Or.inr (Or.inr (Or.inl ⟨h.1, h.2.1, Nat.le_trans h.2.2.1 hN, h.2.2.2.1, Nat.lt_of_lt_of_le h.2.2.2.2.1 hV, h.2.2.2.2.2⟩))
  · exact Or.inr (Or.inr (Or.inr (Or.inl h)))
  · exact Or.inr (Or.inr (Or.inr (Or.inr (Or.inl h))))
  · exact Or.inr (Or.inr (Or.inr (Or.inr (Or.inr (Or.inl ⟨h.1, h.2.1, h.2.2.1, h.2.2.2.1, Nat.le_trans h.2.2.2.2 hN⟩)))))
  · exact Or.inr (Or.inr (Or.inr (Or.inr (Or.inr (Or.inr (Or.inl ⟨h.1, h.2.1, h.2.2.1, h.2.2.2.1, Nat.lt_of_lt_of_le h.2.2.2.2.1 hV, h.2.2.2.2.2⟩))))))
  · exact Or.inr (Or.inr (Or.inr (Or.inr (Or.inr (Or.inr (Or.inr (Or.inl h)))))))
  · exact Or.inr (Or.inr (Or.inr (Or.inr (Or.inr (Or.inr (Or.inr (Or.inr h)))))))
theorem okC_VN {V N V' N' own n : Nat} {c : Nat → zOp} (hV : V ≤ V') (hN : N ≤ N') (h : okC V N own n c) : okC V' N' own n c := by
  obtain ⟨h1, H, h2, h3⟩ := h
  exact ⟨h1, H, h2, fun i hi => ⟨(h3 i hi).1, okO_VN hV hN (h3 i hi).2⟩⟩
theorem okC_0 {V N own : Nat} {c : Nat → zOp} : okC V N own 0 c := ⟨Nat.zero_le _, fun _ => 0, rfl, fun i hi => absurd hi (Nat.not_lt_zero i)⟩
theorem rlO_0 : rlO rl0 := by
  refine ⟨⟨⟨Nat.zero_le _, fun j hj => absurd hj (Nat.not_lt_zero j), fun a b ha => absurd ha (Nat.not_lt_zero a)⟩, ⟨Nat.zero_le _, fun j hj => absurd hj (Nat.not_lt_zero j), fun a b ha => absurd ha (Nat.not_lt_zero a)⟩, ⟨Nat.zero_le _, fun j hj => absurd hj (Nat.not_lt_zero j), fun a b ha => absurd ha (Nat.not_lt_zero a)⟩⟩, fun v hv => absurd hv (Nat.not_lt_zero v), fun v hv => (by cases hv), fun _ _ => rfl, fun _ => okC_0, ?_⟩
  show sm (fun _ => 0) 0 8 ≤ 80
  decide
theorem kyR_up {k : Nat → Nat} {m x : Nat} (h : kyR k m) (hx : x < 32 ^ 8) (ne : fx k x m = none) : kyR (va_up k m x) (m + 1) := by
  have n0 := fx_none ne
  refine ⟨fun j hj => ?_, fun a b ha hb e => ?_⟩
  · unfold va_up
    by_cases z : j = m
    · rw [if_pos z]; exact hx
    · rw [if_neg z]; exact h.1 j (by omega)
  · unfold va_up at e
    by_cases za : a = m
    · by_cases zb : b = m
      · omega
      · rw [if_pos za, if_neg zb] at e
        exact absurd e.symm (n0 b (by omega))
    · by_cases zb : b = m
      · rw [if_neg za, if_pos zb] at e
        exact absurd e (n0 a (by omega))
      · rw [if_neg za, if_neg zb] at e
        exact h.2 a b (by omega) (by omega) e
theorem tkF_r {t : zTk} {k : Nat → Nat} {m x : Nat} (h : tkF t k m = .inr x) : t.1 = 20 ∧ x = t.2.2.1 ∧ fx k x m = none := by
  unfold tkF at h
  split at h
  · rename_i q
    cases z : fx k t.2.2.1 m with
    | none => rw [z] at h; cases h; exact ⟨q, rfl, z⟩
    | some v => rw [z] at h; cases h
  · cases h
theorem sm_up {f : Nat → Nat} {v x : Nat} : ∀ (d j : Nat), (sm (va_up f v x) j d) + (if j ≤ v ∧ v < j + d then f v else 0) = sm f j d + (if j ≤ v ∧ v < j + d then x else 0)
  | 0, j => by rw [if_neg (by omega), if_neg (by omega)]; rfl
  | d + 1, j => by
    have ih := sm_up (f := f) (v := v) (x := x) d (j + 1)
    rw [sm, sm]
    by_cases z : v = j
    · subst z
      rw [if_pos (by omega), if_pos (by omega)]
      rw [if_neg (by omega), if_neg (by omega)] at ih
      have : va_up f v x v = x := by unfold va_up; rw [if_pos rfl]
      omega
    · have e : va_up f v x j = f j := by unfold va_up; rw [if_neg (fun w => z w.symm)]
      rw [e]
      by_cases y : j ≤ v ∧ v < j + (d + 1)
      · rw [if_pos y, if_pos y]
        rw [if_pos (by omega), if_pos (by omega)] at ih
        omega
      · rw [if_neg y, if_neg y]
        rw [if_neg (by omega), if_neg (by omega)] at ih
        omega
/-- a line keeps it -/
theorem lnB_o {n i : Nat} {bs : Nat → Nat} {r r' : zRl} {i' : Nat} (O : rlO r) (Z : lnS n bs r i) (h : lnB n bs r i = .inr (r', i')) : rlO r' := by
  obtain ⟨⟨o1, o2, o3⟩, os, ot, ob, oc, ou⟩ := O
  have lt32 : ∀ j, (tk n bs j).1 = 20 → (tk n bs j).2.2.1 < 32 ^ 8 := fun j q => (tk_o (n := n) (bs := bs) j).2.2.1 (by omega)
  unfold lnB at h
  split at h
  · split at h
    · cases h
    · rename_i q n3
      cases z : tkF (tk n bs (i + 1)) r.1.1.1.2 r.1.1.1.1 with
      | inl e => rw [z] at h; cases h
      | inr x =>
        rw [z] at h
        cases h
        have w := tkF_r z
        exact ⟨⟨⟨by show r.1.1.1.1 + 1 ≤ 3; have := o1.1; omega, kyR_up o1.2 (by rw [w.2.1]; exact lt32 _ w.1) w.2.2⟩, o2, o3⟩, os, ot, ob, fun v => okC_VN (Nat.le_refl _) (Nat.le_succ _) (oc v), ou⟩
  · split at h
    · split at h
      · cases h
      · rename_i q n3
        cases z : tkF (tk n bs (i + 1)) r.1.1.2.1.2 r.1.1.2.1.1 with
        | inl e => rw [z] at h; cases h
        | inr x =>
          rw [z] at h
          cases h
          have w := tkF_r z
          exact ⟨⟨o1, ⟨by show r.1.1.2.1.1 + 1 ≤ 4; have := o2.1; omega, kyR_up o2.2 (by rw [w.2.1]; exact lt32 _ w.1) w.2.2⟩, o3⟩, fun v hv => ⟨Nat.lt_succ_of_lt (os v hv).1, (os v hv).2⟩, ot, ob, oc, ou⟩
    · split at h
      · split at h
        · cases h
        · rename_i q n3
          cases z : tkF (tk n bs (i + 1)) r.1.1.2.2.2 r.1.1.2.2.1 with
          | inl e => rw [z] at h; cases h
          | inr x =>
            rw [z] at h
            simp only [] at h
            have w := tkF_r z
            cases z2 : tkW n bs 3 (i + 2) with
            | inl e => rw [z2] at h; cases h
            | inr j2 =>
              rw [z2] at h
              simp only [] at h
              cases z3 : tkN (tk n bs (i + 3)) r.1.1.2.1.2 r.1.1.2.1.1 (fun _ => false) with
              | inl e => rw [z3] at h; cases h
              | inr s =>
                rw [z3] at h
                simp only [] at h
                have s3 := tkN_lt z3
                cases z4 : tkW n bs 4 (i + 4) with
                | inl e => rw [z4] at h; cases h
                | inr j4 =>
                  rw [z4] at h
                  simp only [] at h
                  cases z5 : tkG n bs (i + 5) with
                  | inl e => rw [z5] at h; cases h
                  | inr g =>
                    rw [z5] at h
                    cases h
                    have g19 : 1 ≤ g ∧ g ≤ 9 := by
                      unfold tkG at z5
                      split at z5
                      · split at z5
                        · cases z5
                        · cases z5; omega
                      · cases z5
                    refine ⟨⟨o1, o2, ⟨by show r.1.1.2.2.1 + 1 ≤ 8; have := o3.1; omega, kyR_up o3.2 (by rw [w.2.1]; exact lt32 _ w.1) w.2.2⟩⟩, fun v hv => ?_, fun v hv => Nat.lt_succ_of_lt (ot v hv), ob, fun v => okC_VN (Nat.le_succ _) (Nat.le_refl _) (oc v), ou⟩
                    show va_up r.1.2.1 r.1.1.2.2.1 s v < _ ∧ 1 ≤ va_up r.1.2.2 r.1.1.2.2.1 g v ∧ va_up r.1.2.2 r.1.1.2.2.1 g v ≤ 9
                    have hv' : v < r.1.1.2.2.1 + 1 := hv
                    unfold va_up
                    by_cases y : v = r.1.1.2.2.1
                    · rw [if_pos y, if_pos y]; exact ⟨s3.1, g19⟩
                    · rw [if_neg y, if_neg y]; exact os v (by omega)
      · split at h
        · rename_i q5
          cases z : tkN (tk n bs (i + 1)) r.1.1.2.2.2 r.1.1.2.2.1 r.2.1 with
          | inl e => rw [z] at h; cases h
          | inr v =>
            rw [z] at h
            simp only [] at h
            have w := tkN_lt z
            have fz := Z q5 v z
            cases z2 : prs n bs r.1.1 v (80 - rlU r) 1602 (0, [], [], (0, c00), (i + 2, 0)) with
            | inl e => rw [z2] at h; cases h
            | inr s =>
              rw [z2] at h
              cases h
              have s4 : s.1 = 4 := by
                rcases fz with ⟨e, y⟩ | ⟨s', y, y4⟩
                · rw [z2] at y; cases y
                · rw [z2] at y; cases y; exact y4
              have J : ∀ (d : Nat) (s0 : zPs), Ivs r.1.1.2.2.1 r.1.1.1.1 v (80 - rlU r) s0 → ∀ s, prs n bs r.1.1 v (80 - rlU r) d s0 = .inr s → Ivs r.1.1.2.2.1 r.1.1.1.1 v (80 - rlU r) s := by
                intro d
                induction d with
                | zero => intro s0 J0 s e; rw [prs] at e; cases e; exact J0
                | succ d ih =>
                  intro s0 J0 s e
                  rw [prs] at e
                  split at e
                  · cases e; exact J0
                  · rename_i n4
                    cases y : stp n bs r.1.1 v (80 - rlU r) s0 with
                    | inl e' => rw [y] at e; cases e
                    | inr s1 =>
                      rw [y] at e
                      exact ih s1 (stp_iv ⟨o1, o2, o3⟩ J0 n4 y).1 s e
              have Js := J 1602 _ (Ivs_0 (by omega)) s z2
              have ok := Ivs_ok Js s4
              have us : s.2.2.2.2.2 ≤ 80 - rlU r := Js.2.2.1
              refine ⟨⟨o1, o2, o3⟩, os, fun x hx => ?_, fun x hx => ?_, fun x => ?_, ?_⟩
              · have hx' : va_up r.2.1 v true x = true := hx
                unfold va_up at hx'
                by_cases y : x = v
                · rw [y]; exact w.1
                · rw [if_neg y] at hx'; exact ot x hx'
              · have hx' : va_up r.2.1 v true x = false := hx
                show va_up r.2.2 v _ x = bl0
                unfold va_up at hx' ⊢
                by_cases y : x = v
                · rw [if_pos y] at hx'; cases hx'
                · rw [if_neg y] at hx' ⊢; exact ob x hx'
              · show okC _ _ x (va_up r.2.2 v _ x).1 (va_up r.2.2 v _ x).2.1
                unfold va_up
                by_cases y : x = v
                · rw [if_pos y, y]; exact ok
                · rw [if_neg y]; exact oc x
              · have b0 : (r.2.2 v).2.2 = 0 := by rw [ob v w.2.1]; rfl
                have e : rlU (rB r v (s.2.2.2.1.1, (s.2.2.2.1.2, s.2.2.2.2.2))) = sm (va_up (fun v => (r.2.2 v).2.2) v s.2.2.2.2.2) 0 8 := by
                  refine sm_congr 8 0 (fun x _ _ => ?_)
                  show (va_up r.2.2 v _ x).2.2 = va_up (fun v => (r.2.2 v).2.2) v s.2.2.2.2.2 x
                  unfold va_up
                  by_cases y : x = v
                  · rw [if_pos y, if_pos y]
                  · rw [if_neg y, if_neg y]
                have v8 : v < 8 := Nat.lt_of_lt_of_le w.1 o3.1
                have su := sm_up (f := fun v => (r.2.2 v).2.2) (v := v) (x := s.2.2.2.2.2) 8 0
                rw [if_pos (by omega), if_pos (by omega), b0] at su
                rw [e]
                have : sm (fun v => (r.2.2 v).2.2) 0 8 = rlU r := rfl
                omega
        · cases h
theorem ln_o {n i : Nat} {bs : Nat → Nat} {r : zRl} {q : zRl × Nat} (O : rlO r) (Z : lnS n bs r i) (h : ln n bs r i = .inr q) : rlO q.1 := by
  unfold ln at h
  cases z : lnB n bs r i with
  | inl e => rw [z] at h; cases h
  | inr q0 =>
    rw [z] at h
    simp only [] at h
    split at h
    · cases h; exact lnB_o O Z z
    · cases h
end

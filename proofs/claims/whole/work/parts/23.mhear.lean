/-! ===== the reference: what a ballot says now ===== -/
section
variable {h h' : zH} {b N ns V xv : Nat} {st wt mk : Nat → Nat} {Q : Option Value → zH → Prop} {X : List Nat} {Y : List (Nat × Nat)}
/-- a step as the reference keeps it -/
def opM (x a b : Int32) (o : Nat × Nat × Nat) : Prop :=
  (o.1 = 0 ∧ x = 1 ∧ a = nI o.2.2) ∨
  (o.1 = 1 ∧ b = nI o.2.1 + (-1) ∧ x = 2 ∧ a + 1 = nI o.2.2 ∧ 0 < o.2.2) ∨
  (o.1 = 1 ∧ b = nI o.2.1 + (-1) ∧ x = 3 ∧ o.2.2 = 0) ∨
  (o.1 = 2 ∧ x = 4 ∧ a = nI o.2.2 ∧ b + 1 = nI o.2.1) ∨
  (o.1 = 3 ∧ x = 5 ∧ a = nI o.2.2) ∨
  (o.1 = 12 ∧ x = 6 ∧ a + 1 = nI o.2.2 ∧ 0 < o.2.2) ∨
  (o.1 = 12 ∧ x = 7 ∧ o.2.2 = 0) ∨
  (o.1 = 13 ∧ x = 8 ∧ a = nI o.2.2) ∨
  (o.1 = 14 ∧ x = 9 ∧ b = nI o.2.1 + (-1)) ∨
  (o.1 = 15 ∧ x = 10 ∧ b = nI o.2.1 + (-1)) ∨
  (o.1 = 6 ∧ x = 126) ∨ (o.1 = 4 ∧ x = 124) ∨ (o.1 = 5 ∧ x = 38) ∨ (o.1 = 7 ∧ x = 60) ∨ (o.1 = 8 ∧ x = 62) ∨ (o.1 = 9 ∧ x = 61) ∨ (o.1 = 10 ∧ x = 43) ∨ (o.1 = 11 ∧ x = 45)
/-- the ballot in slot p -/
def mC (h : zH) (p n : Nat) (c : Nat → Nat × Nat × Nat) : Prop := aI h 97 p = nI n ∧ n ≤ 640 ∧ ∀ i, i < n → opM (aI h 99 (640 * p + i)) (aI h 100 (640 * p + i)) (aI h 101 (640 * p + i)) (c i)
theorem mC.fr {p n : Nat} {c : Nat → Nat × Nat × Nat} (C : mC h p n c) (F : fr X Y h h') (hX : [97, 99, 100, 101].all (fun k => !(X.contains k)) = true) : mC h' p n c := by
  simp only [List.all_cons, List.all_nil, and_true, Bool.and_eq_true] at hX
  obtain ⟨c1, c2, c3, c4⟩ := hX
  unfold mC
  rw [F.i (ni_of c1), F.i (ni_of c2), F.i (ni_of c3), F.i (ni_of c4)]
  exact C
theorem s12_come {x : Int32} {k : Nat} {u w : Int32} (hk : (k = 4 ∧ x = 124) ∨ (k = 5 ∧ x = 38) ∨ (k = 7 ∧ x = 60) ∨ (k = 8 ∧ x = 62) ∨ (k = 9 ∧ x = 61) ∨ (k = 10 ∧ x = 43) ∨ (k = 11 ∧ x = 45)) (H : Q (some (.int (jn k u w))) h) : zC mX12_come [.int x, .int u, .int w] h Q := by
  refine nX12_come _ _ _ _ _ (bX12_come_0 _ _ _ _ _ ⟨fun q => ?_, fun q => ?_, fun q => ?_, fun q => ?_, fun q => ?_, fun q => ?_, fun q1 q2 q3 q4 q5 q6 => ?_⟩)
  · subst q
    have : k = 5 := by rcases hk with ⟨_, e⟩ | ⟨e, _⟩ | ⟨_, e⟩ | ⟨_, e⟩ | ⟨_, e⟩ | ⟨_, e⟩ | ⟨_, e⟩ <;> first | exact e | (exfalso; revert e; decide +kernel)
    subst this
    refine bX12_come_101 _ _ _ _ ⟨fun z => ?_, fun z => ⟨fun z2 => ?_, fun z2 => ?_⟩⟩ <;> simpa [jn, *] using H
  · subst q
    have : k = 10 := by rcases hk with ⟨_, e⟩ | ⟨_, e⟩ | ⟨_, e⟩ | ⟨_, e⟩ | ⟨_, e⟩ | ⟨e, _⟩ | ⟨_, e⟩ <;> first | exact e | (exfalso; revert e; decide +kernel)
    subst this
    exact bX12_come_60 _ _ _ _ (by simpa [jn] using H)
  · subst q
    have : k = 11 := by rcases hk with ⟨_, e⟩ | ⟨_, e⟩ | ⟨_, e⟩ | ⟨_, e⟩ | ⟨_, e⟩ | ⟨_, e⟩ | ⟨e, _⟩ <;> first | exact e | (exfalso; revert e; decide +kernel)
    subst this
    exact bX12_come_64 _ _ _ _ (by simpa [jn] using H)
  · subst q
    have : k = 7 := by rcases hk with ⟨_, e⟩ | ⟨_, e⟩ | ⟨e, _⟩ | ⟨_, e⟩ | ⟨_, e⟩ | ⟨_, e⟩ | ⟨_, e⟩ <;> first | exact e | (exfalso; revert e; decide +kernel)
    subst this
    refine bX12_come_68 _ _ _ _ ⟨fun z => ?_, fun z => ?_⟩
    · have e : jn 7 u w = 0 := by simp only [jn, if_pos z]; rfl
      rw [e] at H; exact H
    · have e : jn 7 u w = 1 := by simp only [jn, if_neg z]; rfl
      rw [e] at H; exact H
  · subst q
    have : k = 9 := by rcases hk with ⟨_, e⟩ | ⟨_, e⟩ | ⟨_, e⟩ | ⟨_, e⟩ | ⟨e, _⟩ | ⟨_, e⟩ | ⟨_, e⟩ <;> first | exact e | (exfalso; revert e; decide +kernel)
    subst this
    refine bX12_come_90 _ _ _ _ ⟨fun z => ?_, fun z => ?_⟩ <;> simpa [jn, z] using H
  · subst q
    have : k = 8 := by rcases hk with ⟨_, e⟩ | ⟨_, e⟩ | ⟨_, e⟩ | ⟨e, _⟩ | ⟨_, e⟩ | ⟨_, e⟩ | ⟨_, e⟩ <;> first | exact e | (exfalso; revert e; decide +kernel)
    subst this
    refine bX12_come_79 _ _ _ _ ⟨fun z => ?_, fun z => ?_⟩
    · have e : jn 8 u w = 0 := by simp only [jn, if_pos z]; rfl
      rw [e] at H; exact H
    · have e : jn 8 u w = 1 := by simp only [jn, if_neg z]; rfl
      rw [e] at H; exact H
  · have : k = 4 := by rcases hk with ⟨e, _⟩ | ⟨_, e⟩ | ⟨_, e⟩ | ⟨_, e⟩ | ⟨_, e⟩ | ⟨_, e⟩ | ⟨_, e⟩ <;> first | exact e | (exfalso; subst e; first | exact q1 rfl | exact q2 rfl | exact q3 rfl | exact q4 rfl | exact q5 rfl | exact q6 rfl)
    subst this
    refine bX12_come_115 _ _ _ _ ⟨fun z => ⟨fun z2 => ?_, fun z2 => ?_⟩, fun z => ?_⟩ <;> simpa [jn, *] using H
/-- the mark that a last step says -/
theorem s12_markOf {own p : Nat} {o : Nat × Nat × Nat} (M : mT h b N ns V st wt) (E : mE h ns V xv st wt mk) (K : mM h V N mk) (ho : own < V) (hp : p < 30720)
    (hop : opM (aI h 99 p) (aI h 100 p) (aI h 101 p) o) (ok : (o.1 = 12 ∧ o.2.2 ≤ N) ∨ (o.1 = 13 ∧ o.2.2 < V) ∨ ((o.1 = 14 ∨ o.1 = 15) ∧ o.2.1 ≤ 4)) (r : Nat) (hr : st1 (V + xv) N st wt mk own o 0 [] = .inl r)
    (H : Q (some (.int (nI r))) h) : zC mX12_markOf [.ref 84, .int (nI own), .int (nI p)] h Q := by
  have cl : (nI p).toNatClampNeg = p := nI_clamp (by omega)
  have vi : ∀ a, aN h a = 30720 → vp_in (nI p) (aN h a) := fun a e => by rw [e]; exact vp_in_nI hp (by decide)
  have hV := M.V8
  have hN := M.N3
  refine nX12_markOf _ _ _ _ _ (bX12_markOf_0 _ _ _ _ _ ⟨M.l.o, _, M.l.r23, M.l.k23, vi _ M.l.n23, ?_⟩)
  rw [cl]
  rcases hop with ⟨e, _⟩ | ⟨e, _⟩ | ⟨e, _⟩ | ⟨e, _⟩ | ⟨e, _⟩ | ⟨e, x, a1, a2⟩ | ⟨e, x, a1⟩ | ⟨e, x, a1⟩ | ⟨e, x, a1⟩ | ⟨e, x, a1⟩ | ⟨e, _⟩ | ⟨e, _⟩ | ⟨e, _⟩ | ⟨e, _⟩ | ⟨e, _⟩ | ⟨e, _⟩ | ⟨e, _⟩ | ⟨e, _⟩
  all_goals (try (exfalso; rw [e] at ok; revert ok; simp; done))
  · rw [x]
    simp only [st1, e] at hr
    simp at hr
    refine ⟨fun _ => bX12_markOf_32 _ _ _ _ ⟨M.l.o, _, M.l.r24, M.l.k24, vi _ M.l.n24, ?_⟩, fun z => absurd z (by decide +kernel), fun z => absurd z (by decide +kernel), fun z => absurd rfl z⟩
    rw [cl, a1, hr]; exact H
  · rw [x]
    simp only [st1, e] at hr
    simp at hr
    refine ⟨fun z => absurd z (by decide +kernel), fun _ => bX12_markOf_41 _ _ ?_, fun z => absurd z (by decide +kernel), fun _ z => absurd rfl z⟩
    rw [a1] at hr; rw [← hr] at H; exact H
  · rw [x]
    simp only [st1, e] at hr
    simp at hr
    have hv : o.2.2 < V := by rcases ok with ⟨z, _⟩ | ⟨_, z⟩ | ⟨z, _⟩ <;> omega
    refine ⟨fun z => absurd z (by decide +kernel), fun z => absurd z (by decide +kernel), fun _ => bX12_markOf_43 _ _ _ _ ⟨M.l.o, _, M.l.r38, _, M.l.r24, M.l.k24, vi _ M.l.n24, M.l.k38, ?_, ?_⟩, fun _ _ z => absurd rfl z⟩
    · rw [cl, a1, M.l.n38]; exact vp_in_nI (by omega) (by decide)
    · rw [cl, a1, nI_clamp (by omega), (K _ hv).1, hr]; exact H
  · rw [x]
    simp only [st1, e] at hr
    simp at hr
    have hv : o.2.1 ≤ 4 := by rcases ok with ⟨z, _⟩ | ⟨z, _⟩ | ⟨_, z⟩ <;> omega
    refine ⟨fun z => absurd z (by decide +kernel), fun z => absurd z (by decide +kernel), fun z => absurd z (by decide +kernel), fun _ _ _ => bX12_markOf_55 _ _ _ _ _ ⟨M.l.o, _, M.l.r23, M.l.k23, vi _ M.l.n23, br_t (by rw [cl, x]) ⟨_, M.l.r25, M.l.k25, vi _ M.l.n25, ?_⟩⟩⟩
    rw [cl, a1]
    exact s12_outmost_m M E K ho hv ⟨_, rfl, by rw [hr]; exact H⟩
  · rw [x]
    simp only [st1, e] at hr
    simp at hr
    have hv : o.2.1 ≤ 4 := by rcases ok with ⟨z, _⟩ | ⟨z, _⟩ | ⟨_, z⟩ <;> omega
    refine ⟨fun z => absurd z (by decide +kernel), fun z => absurd z (by decide +kernel), fun z => absurd z (by decide +kernel), fun _ _ _ => bX12_markOf_55 _ _ _ _ _ ⟨M.l.o, _, M.l.r23, M.l.k23, vi _ M.l.n23, br_f (by rw [cl, x]; decide +kernel) ⟨_, M.l.r25, M.l.k25, vi _ M.l.n25, ?_⟩⟩⟩
    rw [cl, a1]
    exact s12_outmost_f M E K ho hv ⟨_, rfl, by rw [hr]; exact H⟩
end

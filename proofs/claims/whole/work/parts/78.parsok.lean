/-! ===== a wording read: what holds of it ===== -/
section
def opd : List Nat → Nat
  | [] => 0
  | e :: E => (if 4 ≤ e ∧ e ≠ 6 then 1 else 0) + opd E
def pnd : List Nat → Nat
  | [] => 0
  | e :: E => (if 4 ≤ e then 1 else 0) + pnd E
def nrn : List Nat → Nat
  | [] => 0
  | e :: E => if e = 6 then nrn E + 1 else 0
def wfE : List Nat → Prop
  | [] => True
  | e :: E => e < 12 ∧ wfE E ∧ (e = 3 ∨ (e = 6 ∧ bnd (E.headD 0) ≤ 3) ∨ (4 ≤ e ∧ e ≠ 6 ∧ bnd (E.headD 0) < bnd e))
def tbb (e : Nat) : Nat := [0, 0, 0, 0, 1, 2, 2, 3, 3, 3, 4, 4].getD e 0
theorem bnd_3 : bnd 3 = 0 := rfl
theorem bnd_pos : ∀ e, e < 12 → 1 ≤ bnd e → 4 ≤ e := by decide +kernel
theorem tbb_le : ∀ e, e < 12 → tbb e ≤ 4 := by decide +kernel
theorem tbb_lt : ∀ a, a < 12 → ∀ e, e < 12 → 4 ≤ e → e ≠ 6 → bnd a < bnd e → tbb a + 1 ≤ tbb e := by decide +kernel
theorem wfE_hd {E : List Nat} (h : wfE E) : E.headD 0 < 12 := by
  cases E with
  | nil => decide
  | cons e E => exact h.1
theorem wfE_len : ∀ {E : List Nat}, wfE E → E.length ≤ 5 * ard E + tbb (E.headD 0)
  | [], _ => Nat.zero_le _
  | e :: E, h => by
    have ih := wfE_len h.2.1
    have hd := wfE_hd h.2.1
    have t4 := tbb_le _ hd
    show E.length + 1 ≤ 5 * ((if e = 3 ∨ e = 6 then 1 else 0) + ard E) + tbb e
    rcases h.2.2 with w | w | w
    · rw [if_pos (Or.inl w)]; omega
    · rw [if_pos (Or.inr w.1)]; omega
    · have := tbb_lt _ hd e h.1 w.1 w.2.1 w.2.2
      rw [if_neg (by omega)]; omega
theorem opd_le : ∀ E : List Nat, opd E ≤ E.length
  | [] => Nat.le_refl _
  | e :: E => by
    have := opd_le E
    show (if 4 ≤ e ∧ e ≠ 6 then 1 else 0) + opd E ≤ E.length + 1
    split <;> omega
theorem nrn_le : ∀ E : List Nat, nrn E ≤ ard E
  | [] => Nat.le_refl _
  | e :: E => by
    have := nrn_le E
    show (if e = 6 then nrn E + 1 else 0) ≤ (if e = 3 ∨ e = 6 then 1 else 0) + ard E
    split
    · rename_i w; rw [if_pos (Or.inr w)]; omega
    · exact Nat.zero_le _
theorem opd_35 {E : List Nat} (h : wfE E) (ha : ard E ≤ 6) : opd E ≤ 34 ∧ E.length ≤ 34 := by
  have a := wfE_len h
  have b := tbb_le _ (wfE_hd h)
  have c := opd_le E
  omega
/-- the steps so far: d values are held -/
def cdI (V N own m : Nat) (c : Nat → zOp) (I : List (Nat × Bool)) (d : Nat) : Prop := ∃ H : Nat → Nat, H 0 = 0 ∧ H m = d ∧ (∀ j, j < m → H j ≤ 40 ∧ (((j, true) ∈ I ∧ c j = (3, 0, 0) ∧ H j = 1 ∧ H (j + 1) = 0) ∨ okO V N own m j H (c j))) ∧ ∀ j b, (j, b) ∈ I → j < m ∧ (b = true → c j = (3, 0, 0) ∧ H j = 1 ∧ H (j + 1) = 0)
theorem okO_mo {V N own n n' i : Nat} {H H' : Nat → Nat} {o : zOp} (h : okO V N own n i H o) (hn : n ≤ n') (hi : H' i = H i) (hi1 : H' (i + 1) = H (i + 1)) (ht : ∀ k, k ≤ n → H' k = H k) : okO V N own n' i H' o := by
  unfold okO at h ⊢
  rw [hi, hi1]
  rcases h with h | h | h | h | h | h | h | h | h
  · exact Or.inl h
  · exact Or.inr (Or.inl h)
  · exact Or.inr (Or.inr (Or.inl h))
  · refine Or.inr (Or.inr (Or.inr (Or.inl ?_)))
    rw [ht _ h.2.2.2.2.1]
    exact ⟨h.1, h.2.1, h.2.2.1, h.2.2.2.1, by omega, h.2.2.2.2.2.1, h.2.2.2.2.2.2⟩
  · exact Or.inr (Or.inr (Or.inr (Or.inr (Or.inl h))))
  · exact Or.inr (Or.inr (Or.inr (Or.inr (Or.inr (Or.inl h)))))
  · exact Or.inr (Or.inr (Or.inr (Or.inr (Or.inr (Or.inr (Or.inl h))))))
  · exact Or.inr (Or.inr (Or.inr (Or.inr (Or.inr (Or.inr (Or.inr (Or.inl h)))))))
  · exact Or.inr (Or.inr (Or.inr (Or.inr (Or.inr (Or.inr (Or.inr (Or.inr h)))))))
variable {V N own m d d' : Nat} {c : Nat → zOp} {I : List (Nat × Bool)} {o : zOp}
/-- a step more -/
theorem cdI_e (A : cdI V N own m c I d) (hd : d ≤ 40) (h0 : m = 0 → d = 0) (ho : ∀ H : Nat → Nat, H m = d → H (m + 1) = d' → okO V N own (m + 1) m H o) : cdI V N own (m + 1) (pE c m o) I d' := by
  obtain ⟨H, a0, am, aj, ai⟩ := A
  have e : ∀ k, k ≤ m → (fun k => if k = m + 1 then d' else H k) k = H k := fun k hk => by
    show (if k = m + 1 then d' else H k) = H k
    rw [if_neg (by omega)]
  have e1 : (fun k => if k = m + 1 then d' else H k) (m + 1) = d' := by
    show (if m + 1 = m + 1 then d' else H (m + 1)) = d'
    rw [if_pos rfl]
  have pc : ∀ j, j < m → pE c m o j = c j := fun j hj => by unfold pE; rw [if_neg (by omega)]
  refine ⟨fun k => if k = m + 1 then d' else H k, by rw [e 0 (Nat.zero_le _)]; exact a0, e1, fun j hj => ?_, fun j b hb => ?_⟩
  · by_cases z : j = m
    · subst z
      refine ⟨by rw [e j (Nat.le_refl _), am]; exact hd, Or.inr ?_⟩
      rw [show pE c j o j = o by unfold pE; rw [if_pos rfl]]
      exact ho (fun k => if k = j + 1 then d' else H k) ((e j (Nat.le_refl _)).trans am) e1
    · have := aj j (by omega)
      rw [e j (by omega), e (j + 1) (by omega), pc j (by omega)]
      refine ⟨this.1, ?_⟩
      rcases this.2 with w | w
      · exact Or.inl w
      · exact Or.inr (okO_mo w (by omega) (e j (by omega)) (e (j + 1) (by omega)) (fun k hk => e k hk))
  · have := ai j b hb
    rw [e j (by omega), e (j + 1) (by omega), pc j (by omega)]
    exact ⟨by omega, this.2⟩
/-- a question's jump, still open -/
theorem cdI_j (A : cdI V N own m c I 1) : cdI V N own (m + 1) (pE c m (3, 0, 0)) ((m, true) :: I) 0 := by
  obtain ⟨H, a0, am, aj, ai⟩ := A
  have e : ∀ k, k ≤ m → (fun k => if k = m + 1 then 0 else H k) k = H k := fun k hk => by
    show (if k = m + 1 then 0 else H k) = H k
    rw [if_neg (by omega)]
  have e1 : (fun k => if k = m + 1 then 0 else H k) (m + 1) = 0 := by
    show (if m + 1 = m + 1 then 0 else H (m + 1)) = 0
    rw [if_pos rfl]
  have pc : ∀ j, j < m → pE c m (3, 0, 0) j = c j := fun j hj => by unfold pE; rw [if_neg (by omega)]
  have pm : pE c m (3, 0, 0) m = (3, 0, 0) := by unfold pE; rw [if_pos rfl]
  refine ⟨fun k => if k = m + 1 then 0 else H k, by rw [e 0 (Nat.zero_le _)]; exact a0, e1, fun j hj => ?_, fun j b hb => ?_⟩
  · by_cases z : j = m
    · subst z
      exact ⟨by rw [e j (Nat.le_refl _), am]; decide, Or.inl ⟨List.mem_cons_self, pm, by rw [e j (Nat.le_refl _), am], e1⟩⟩
    · have := aj j (by omega)
      rw [e j (by omega), e (j + 1) (by omega), pc j (by omega)]
      refine ⟨this.1, ?_⟩
      rcases this.2 with w | w
      · exact Or.inl ⟨List.mem_cons_of_mem _ w.1, w.2⟩
      · exact Or.inr (okO_mo w (by omega) (e j (by omega)) (e (j + 1) (by omega)) (fun k hk => e k hk))
  · rcases List.mem_cons.mp hb with w | w
    · cases w
      exact ⟨by omega, fun _ => ⟨pm, by rw [e m (Nat.le_refl _), am], e1⟩⟩
    · have := ai j b w
      rw [e j (by omega), e (j + 1) (by omega), pc j (by omega)]
      exact ⟨by omega, this.2⟩
/-- the jump laid -/
theorem cdI_p {j : Nat} (A : cdI V N own m c ((j, true) :: I) 0) (hI : ∀ b, (j, b) ∉ I) : cdI V N own m (pE c j (3, 0, m)) ((j, false) :: I) 0 := by
  obtain ⟨H, a0, am, aj, ai⟩ := A
  have hj := ai j true List.mem_cons_self
  have jj := hj.2 rfl
  have pj : pE c j (3, 0, m) j = (3, 0, m) := by unfold pE; rw [if_pos rfl]
  have pn : ∀ k, k ≠ j → pE c j (3, 0, m) k = c k := fun k hk => by unfold pE; rw [if_neg hk]
  refine ⟨H, a0, am, fun k hk => ?_, fun k b hb => ?_⟩
  · by_cases z : k = j
    · subst z
      refine ⟨(aj k hk).1, Or.inr ?_⟩
      rw [pj]
      exact Or.inr (Or.inr (Or.inr (Or.inl ⟨rfl, jj.2.1, jj.2.2, hj.1, Nat.le_refl _, am, rfl⟩)))
    · rw [pn k z]
      refine ⟨(aj k hk).1, ?_⟩
      rcases (aj k hk).2 with w | w
      · refine Or.inl ⟨List.mem_cons_of_mem _ ?_, w.2⟩
        rcases List.mem_cons.mp w.1 with u | u
        · exact absurd (Prod.mk.inj u).1 z
        · exact u
      · exact Or.inr w
  · rcases List.mem_cons.mp hb with w | w
    · cases w
      exact ⟨hj.1, fun u => by cases u⟩
    · have zj : k ≠ j := fun u => hI b (by rw [← u]; exact w)
      rw [pn k zj]
      exact ai k b (List.mem_cons_of_mem _ w)
theorem cdI_t {p : Nat × Bool} (A : cdI V N own m c (p :: I) d) (hp : p.2 = false) : cdI V N own m c I d := by
  obtain ⟨H, a0, am, aj, ai⟩ := A
  refine ⟨H, a0, am, fun k hk => ⟨(aj k hk).1, ?_⟩, fun k b hb => ai k b (List.mem_cons_of_mem _ hb)⟩
  rcases (aj k hk).2 with w | w
  · refine Or.inl ⟨?_, w.2⟩
    rcases List.mem_cons.mp w.1 with u | u
    · rw [← u] at hp; cases hp
    · exact u
  · exact Or.inr w
theorem cdI_ok (A : cdI V N own m c [] 0) (hm : m ≤ 640) : okC V N own m c := by
  obtain ⟨H, a0, am, aj, ai⟩ := A
  refine ⟨hm, H, a0, fun i hi => ⟨(aj i hi).1, ?_⟩⟩
  rcases (aj i hi).2 with w | w
  · exact absurd w.1 List.not_mem_nil
  · exact w
/-- signs put behind the steps -/
theorem stl_i {b : Nat} (hb : 1 ≤ b) : ∀ (E : List Nat) (m : Nat) (c : Nat → zOp), wfE E → ard E ≤ 6 → (m = 0 → False) → cdI V N own m c I (opd E + 1) → wfE (stl b E m c).1 ∧ ard (stl b E m c).1 ≤ ard E ∧ cdI V N own (stl b E m c).2.1 (stl b E m c).2.2 I (opd (stl b E m c).1 + 1) ∧ (stl b E m c).2.1 + pnd (stl b E m c).1 = m + pnd E ∧ bnd ((stl b E m c).1.headD 0) < b ∧ m ≤ (stl b E m c).2.1
  | [], m, c, h, _, _, A => ⟨h, Nat.le_refl _, A, rfl, hb, Nat.le_refl _⟩
  | e :: E, m, c, h, ha, h0, A => by
    rw [stl]
    by_cases w : b ≤ bnd e
    · rw [if_pos w]
      have e4 := bnd_pos e h.1 (by omega)
      have o35 := (opd_35 h ha).1
      have aE : ard E ≤ ard (e :: E) := by show ard E ≤ (if e = 3 ∨ e = 6 then 1 else 0) + ard E; omega
      have od : opd (e :: E) = (if 4 ≤ e ∧ e ≠ 6 then 1 else 0) + opd E := rfl
      have pd : pnd (e :: E) = 1 + pnd E := by show (if 4 ≤ e then 1 else 0) + pnd E = _; rw [if_pos e4]
      have A1 : cdI V N own (m + 1) (pE c m (e, 0, 0)) I (opd E + 1) := by
        refine cdI_e A (by omega) (fun z => absurd z h0) (fun H h1 h2 => ?_)
        by_cases z : e = 6
        · rw [od, if_neg (by omega)] at h1
          exact Or.inr (Or.inr (Or.inr (Or.inr (Or.inl ⟨z, by omega, by omega, rfl, rfl⟩))))
        · rw [od, if_pos ⟨e4, z⟩] at h1
          have := h.1
          exact Or.inr (Or.inr (Or.inr (Or.inr (Or.inr (Or.inr (Or.inr (Or.inr ⟨by show e = 4 ∨ e = 5 ∨ e = 7 ∨ e = 8 ∨ e = 9 ∨ e = 10 ∨ e = 11; omega, by omega, by omega, rfl, rfl⟩)))))))
      obtain ⟨r1, r2, r3, r4, r5, r6⟩ := stl_i hb E (m + 1) (pE c m (e, 0, 0)) h.2.1 (by omega) (by omega) A1
      exact ⟨r1, by omega, r3, by omega, r5, by omega⟩
    · rw [if_neg w]
      exact ⟨h, Nat.le_refl _, A, rfl, by show bnd e < b; omega, Nat.le_refl _⟩
/-- what holds while a wording is read -/
def Ivs (V N own lim : Nat) (s : zPs) : Prop := wfE s.2.1 ∧ wth s ≤ 7 ∧ s.2.2.2.2.2 ≤ lim ∧ lim ≤ 80 ∧ cdI V N own s.2.2.2.1.1 s.2.2.2.1.2 s.2.2.1 (if s.1 = 1 then opd s.2.1 else if s.1 = 2 then opd s.2.1 + 1 else 0) ∧ s.2.2.1.Pairwise (fun a b => b.1 < a.1) ∧
  ((s.1 = 0 ∨ s.1 = 3 ∨ s.1 = 4) → s.2.1 = [] ∧ s.2.2.2.1.1 ≤ 8 * s.2.2.2.2.2) ∧ (s.1 = 1 → s.2.2.2.1.1 + pnd s.2.1 ≤ 8 * s.2.2.2.2.2 + nrn s.2.1) ∧ (s.1 = 2 → s.2.2.2.1.1 + pnd s.2.1 + 1 ≤ 8 * s.2.2.2.2.2 ∧ 0 < s.2.2.2.1.1) ∧ (s.1 = 4 → s.2.2.1 = []) ∧ s.1 ≤ 4
theorem tkN_lt {t : zTk} {k : Nat → Nat} {m v : Nat} {bar : Nat → Bool} (h : tkN t k m bar = .inr v) : v < m ∧ bar v = false ∧ t.1 = 20 := by
  unfold tkN at h
  split at h
  · rename_i q
    cases z : fx k t.2.2.1 m with
    | none => rw [z] at h; cases h
    | some u =>
      rw [z] at h
      dsimp only at h
      split at h
      · cases h
      · rename_i w
        cases h
        exact ⟨(fx_some z).1, by simpa using w, q⟩
  · cases h
theorem srB_lt {n i : Nat} {bs : Nat → Nat} {K : zKs} {p : Nat × Nat} (h : srB n bs K i = .inr p) : p.2 ≤ K.2.1.1 ∧ i ≤ p.1 := by
  unfold srB at h
  split at h
  · cases z : tkN (tk n bs (i + 1)) K.2.1.2 K.2.1.1 (fun _ => false) with
    | inl e => rw [z] at h; cases h
    | inr v =>
      rw [z] at h
      cases h
      have := (tkN_lt z).1
      exact ⟨by show v + 1 ≤ _; omega, by show i ≤ i + 2; omega⟩
  · cases h
    exact ⟨Nat.zero_le _, Nat.le_refl _⟩
end

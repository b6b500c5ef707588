/-! ===== the class's reader: a mark ===== -/
section
variable {h h' : zH} {Q : Option Value → zH → Prop} {n tc i m w u own lim ot t av as_ : Nat} {bs : Nat → Nat} {c : Nat → zOp} {S E : List Nat} {I : List (Nat × Bool)} {K : zKs}
/-- where it reads -/
def cEv (h : zH) (t : Nat) (K : zKs) (own : Nat) : Prop := gR h 1 3 = some t ∧ (t = 70 ∨ t = 77) ∧ cKy h t K ∧ gI h 1 7 = nI own ∧ own < 8
theorem cEv.fr {X : List Nat} (V : cEv h t K own) (F : fr XP YX h h') : cEv h' t K own := by
  obtain ⟨v1, v2, v3, v4, v5⟩ := V
  refine ⟨by rw [F.gr (by simp)]; exact v1, v2, v3.fr F (by rcases v2 with rfl | rfl <;> simp) (by rcases v2 with rfl | rfl <;> simp) (by rcases v2 with rfl | rfl <;> simp) (fun f _ => by rcases v2 with rfl | rfl <;> simp), by rw [F.gi (by simp)]; exact v4, v5⟩
theorem or_lt8 {a v : Nat} (ha : a < 256) (hv : v < 8) : a ||| 2 ^ v < 256 := Nat.or_lt_two_pow (n := 8) ha (Nat.pow_lt_pow_right (by decide) hv)
theorem or_bit {a v x : Nat} : (a ||| 2 ^ v).testBit x = (a.testBit x || (v == x)) := by
  rw [Nat.testBit_or, Nat.testBit_two_pow]
  congr 1
theorem e4_takeName (P : cEx h n bs tc i) (D : cWd h S m c w u av as_) (V : cEv h t K own) (O : kyO K)
    (H1 : ∀ h' v, tkN (tk n bs i) K.1.2 K.1.1 (fun _ => false) = .inr v → v < K.1.1 → fr XP YX h h' → cEx h' n bs tc (i + 1) → cWd h' S m c w u av as_ → Q (some (.int (nI v))) h')
    (H2 : ∀ h' e, tkN (tk n bs i) K.1.2 K.1.1 (fun _ => false) = .inl e → fr XP YX h h' → cLo h' n bs tc e → Q (some (.int (-1))) h') : zC mX4_takeKnown [.ref 1, .ref (t + 1), .int (gI h t 6), .int 0] h Q := by
  have A := V.2.2.1
  have O3 := O.1.1
  rw [A.2.1.2.2.2.1]
  exact s4_takeKnown P.1 P.2 A.2.1.2.1 A.2.1.2.2.1 (by decide) O3 A.2.1.2.2.2.2 O.1.2 (fun v hv => no_bar v (by omega)) (fun h' v et hv F P' g' => H1 h' v et hv (F.mo (by simp) (by simp)) ⟨P', g'⟩ (D.fr F (by simp) (by simp) (by decide))) (fun h' e et F P' E' => H2 h' e et (F.mo (by simp) (by simp)) ⟨⟨_, P'⟩, E'⟩)
theorem e4_takeOther (P : cEx h n bs tc i) (D : cWd h S m c w u av as_) (V : cEv h t K own) (O : kyO K)
    (H1 : ∀ h' v, tkN (tk n bs i) K.2.2.2 K.2.2.1 (fun v => v == own) = .inr v → v < K.2.2.1 → fr XP YX h h' → cEx h' n bs tc (i + 1) → cWd h' S m c w u (av ||| 2 ^ v) as_ → Q (some (.int (nI v))) h')
    (H2 : ∀ h' e, tkN (tk n bs i) K.2.2.2 K.2.2.1 (fun v => v == own) = .inl e → fr XP YX h h' → cLo h' n bs tc e → Q (some (.int (-1))) h') : zC mX4_takeOther [.ref 1] h Q := by
  obtain ⟨d1, d2, d3, d4, d5, d6⟩ := D
  exact s4_takeOther P.1 P.2 V.2.2.1 O V.1 V.2.2.2.1 V.2.2.2.2 d5 V.2.1 (fun h' v et hv F P' g' a' => H1 h' v et hv (F.mo (by simp) (by simp)) ⟨P', g'⟩ ⟨by rw [F.gi (by simp), F.i (by simp)]; exact d1, by rw [F.gi (by simp), F.i (by simp)]; exact d2, by rw [F.gi (by simp)]; exact d3, by rw [F.gi (by simp)]; exact d4, a', by rw [F.gi (by simp)]; exact d6⟩) (fun h' e et F P' E' => H2 h' e et (F.mo (by simp) (by simp)) ⟨⟨_, P'⟩, E'⟩)
theorem e4_takeStreet (P : cEx h n bs tc i) (D : cWd h S m c w u av as_) (V : cEv h t K own) (O : kyO K)
    (H1 : ∀ h' p, srB n bs K i = .inr p → p.2 ≤ K.2.1.1 → fr XP YX h h' → cEx h' n bs tc p.1 → cWd h' S m c w u av (as_ ||| 2 ^ p.2) → Q (some (.int (nI p.2))) h')
    (H2 : ∀ h' e, srB n bs K i = .inl e → fr XP YX h h' → cLo h' n bs tc e → Q (some (.int (-1))) h') : zC mX4_takeStreet [.ref 1] h Q := by
  obtain ⟨d1, d2, d3, d4, d5, d6⟩ := D
  exact s4_takeStreet P.1 P.2 V.2.2.1 O V.1 d6 V.2.1 (fun h' p et hp F P' g' a' => H1 h' p et hp (F.mo (by simp) (by simp)) ⟨P', g'⟩ ⟨by rw [F.gi (by simp), F.i (by simp)]; exact d1, by rw [F.gi (by simp), F.i (by simp)]; exact d2, by rw [F.gi (by simp)]; exact d3, by rw [F.gi (by simp)]; exact d4, by rw [F.gi (by simp)]; exact d5, a'⟩) (fun h' e j et F P' E' => H2 h' e et (F.mo (by simp) (by simp)) ⟨⟨_, P'⟩, E'⟩)
end

/-! ===== the class: reword ===== -/
section
variable {h h' : zH} {Q : Option Value → zH → Prop} {n t t2 N V : Nat} {bs : Nat → Nat} {R : List Nat} {o : Nat → Option Nat} {cu : Nat → Nat} {K : zKs} {st wt : Nat → Nat} {x : Int32}
def YWf : List (Nat × Nat) := [(2, 5), (0, 13), (0, 14)] ++ YOn
def XWr : List Nat := [36] ++ XOn
def YWr : List (Nat × Nat) := [(12, 7), (12, 8), (19, 4), (21, 3)] ++ YWf
theorem s11_reword (O : cOb h t t2) (S : cOs h) (ht : t = 70 ∨ t = 77) (T : cT h t N V st wt) (Ky : cKy h t K) (Ko : kyO K) (hV : K.2.2.1 = V) (hN : K.1.1 = N) (L : cRr h) (Tp : cTp h n bs) (E : cEn h 33 o) (B : ∀ v, v < 8 → oK h ((o v).getD 34) 0 ∧ gI h ((o v).getD 34) 1 = nI (cu v)) (bl : ∀ v b, v < 8 → o v = some b → 126 ≤ b) (hu : sm cu 0 8 ≤ 80) (l : 126 ≤ h.1) (hR : ∀ k, k ∈ R → k < h.1)
    (H0 : (x < 0 ∨ nI V ≤ x) → Q (some (.int (-2))) h)
    (H1 : ∀ v s h' b, x = nI v → v < V → rwO n bs K v (80 - otU cu v) = .inr s → fuelS n bs K v (80 - otU cu v) 1602 (0, [], [], (0, c00), (0, 0)) → fz h.1 XWr YWr h h' → h'.1 = h.1 + 2 → h'.2.1 = h.2.1 + s.2.2.2.1.1 + 4 → 126 ≤ b → cB h' R b s.2.2.2.1.1 s.2.2.2.1.2 s.2.2.2.2.2 → okC V N v s.2.2.2.1.1 s.2.2.2.1.2 → s.2.2.2.2.2 ≤ 80 - otU cu v → cEn h' 33 (fun w => if w = v then some b else o w) → (gI h' 12 7 = gI h 12 7 ||| nI (2 ^ v) ∧ gI h' 12 8 = 0 ∧ gI h' 19 4 = 0 ∧ gI h' 21 3 = 0) → (gI h' 2 5 = 0 ∧ gI h' 0 13 = 0 ∧ gI h' 0 14 = -1) → Q (some (.int (nI (sm (va_up cu v s.2.2.2.2.2) 0 8)))) h')
    (H2 : ∀ v e h', x = nI v → v < V → rwO n bs K v (80 - otU cu v) = .inl e → fuelS n bs K v (80 - otU cu v) 1602 (0, [], [], (0, c00), (0, 0)) → fr XOn YWf h h' → gI h' 2 5 = 0 → gI h' 0 13 = nI e.1 → gI h' 0 14 = nI e.2 → Q (some (.int (-1))) h') : zC mX11_reword [.ref 0, .int x] h Q := by
  obtain ⟨o0, ⟨b0, b1, b2, b3⟩, ⟨b4, b5, b6, b7⟩, ⟨b8, b9⟩, b10, b11⟩ := id O
  have V8 := T.V8
  refine nX11_reword _ _ _ _ (bX11_reword_0 _ _ _ _ ⟨o0, _, b10, T.o, s10_hasVoter T (fun q => ⟨_, rfl, br_t rfl (H0 q)⟩) (fun v hv xe => ⟨_, rfl, br_f (by decide +kernel) ⟨o0, _, b8, E.1, s1_units (cu := cu) E B ⟨_, rfl, o0, _, b8, E.1, ?_⟩⟩⟩)⟩)
  subst xe
  have v8 : v < 8 := by omega
  have ou := otU_le (cu := cu) v8
  refine s1_ballotOf E v8 ⟨_, rfl, _, rfl, (B v v8).1, o0, _, b0, _, b10, L.1, ?_⟩
  rw [(B v v8).2, nI_sub (by omega), show sm cu 0 8 - cu v = otU cu v by omega]
  have ol : ∀ {a : zH}, cOb a t t2 → oK a 2 8 → oK a 1 4 → ∀ {Q' : Option Value → zH → Prop}, (∀ h', fr [] [(2, 5), (0, 13), (0, 14)] a h' → gI h' 2 5 = 0 → gI h' 0 13 = gI a 1 12 → gI h' 0 14 = gI a 1 13 → Q' none h') → zC mX11_endReading [.ref 0] a Q' := fun {_} OB o2 o1 {_} H => s11_endReading OB.1 OB.2.1.2.1 OB.2.1.1 o2 o1 H
  refine s4_readOne (lim := 80 - otU cu v) Ky Ko ht L Tp (by omega) v8 (fun h5 s es Z5 F5 L5 G5 D5 g9 ok us => ⟨_, rfl, F5.o o0, ?_⟩) (fun h5 e ee Z5 F5 L5 E5 => ⟨_, rfl, F5.o o0, ?_⟩)
  · have OB5 := cOb_fr O F5 (by decide)
    refine ol OB5 L5.2.2.2.2.1.1 L5.1 (fun h8 F8 x1 x2 x3 => ⟨rfl, br_f (by decide +kernel) ⟨F8.o OB5.1, ?_⟩⟩)
    have OB8 := cOb_fr OB5 F8 (by decide)
    have L8 : cRr h8 := L5.fr F8 (by simp) (by decide) (by simp) (by simp) (by simp)
    obtain ⟨St, w, av, as_, D, bv, bS⟩ := D5
    have D8 := D.fr F8 (by simp) (by simp) (by decide)
    have n8 : h8.1 = h.1 := by rw [F8.1.1, F5.1.1]
    rw [hV, hN] at ok
    refine ⟨_, OB8.2.2.2.1.1, _, OB8.2.1.1, L8.1, s4_ballot (R := R) (u := s.2.2.2.2.2) L8 D8 (by rw [F8.gi (by simp)]; exact g9) ok.1 bv bS (by omega) (fun k hk => by rw [n8]; exact hR k hk) (fun h11 b F11 n11 p11 hb B11 => ⟨some b, rfl, b, rfl, ?_⟩)⟩
    have E8 : cEn h8 33 o := (E.fr F5 (by simp) (by simp) (by simp) (by simp)).fr F8 (by simp) (by simp) (by simp) (by simp)
    have E11 : cEn h11 33 o := E8.fz F11 (by simp) (by simp) (by simp) (by simp)
    have OB11 : cOb h11 t t2 := OB8.fz F11 (by omega) (by decide)
    have S11 : cOs h11 := ((S.fz (F5.z (n := h.1) (Nat.le_refl _))).fz (F8.z (n := h5.1) (Nat.le_refl _))).fz F11
    refine ⟨E11.1, s1_putBallot E11 v8 B11.1 (fun h12 F12 E12 => ⟨rfl, F12.o OB11.1, ?_⟩)⟩
    have OB12 := cOb_fr OB11 F12 (by decide)
    have S12 : cOs h12 := S11.fz (F12.z (n := h11.1) (Nat.le_refl _))
    have B12 : cB h12 R b s.2.2.2.1.1 s.2.2.2.1.2 s.2.2.2.2.2 := B11.fr F12 (fun k hk => Or.inl (by simp at hk; omega)) (fun q hq => by simp at hq)
    rw [nI_1shl (by omega)]
    have p8 : 2 ^ v < 2 ^ 8 := Nat.pow_lt_pow_right (by decide) v8
    have p0 : 0 < 2 ^ v := Nat.pow_pos (by decide)
    refine s11_forget OB12.1 OB12.2.1.2.2.2 OB12.2.2.1.1 OB12.2.2.1.2.1 S12.1.1 S12.1.2.1 S12.1.2.2.1 (fun z => absurd z (fun y => by rw [← nI_0] at y; have := (nI_eq (by omega) (by decide)).mp y; omega)) (fun h13 _ F13 y7 y8 y19 y21 => ⟨rfl, F13.o OB12.1, ?_⟩)
    have OB13 := cOb_fr OB12 F13 (by decide)
    have E13 := E12.fr F13 (by simp) (by simp) (by simp) (by simp)
    have B13 : cB h13 R b s.2.2.2.1.1 s.2.2.2.1.2 s.2.2.2.2.2 := B12.fr F13 (fun k hk => by simp at hk) (fun q hq => by simp at hq; rcases hq with rfl | rfl | rfl | rfl <;> exact ⟨by decide, by decide⟩)
    have F58 : fr XWr YWr h h8 := (F5.mo (by simp [XWr]) (fun k hk => List.mem_append_right _ (List.mem_append_right _ hk))).tr (F8.mo (by simp) (fun k hk => List.mem_append_right _ (List.mem_append_left _ hk)))
    have FX : fz h.1 XWr YWr h h13 := by
      refine (((F58.z (Nat.le_refl _)).tr ?_ (h2 := h11)).tr ?_ (h2 := h12)).tr ?_
      · rw [← n8]; exact F11.mo (Nat.le_refl _) (fun _ _ z => by simp at z) (fun _ _ z => by simp at z)
      · exact (F12.z (n := h.1) (by omega)).mo (Nat.le_refl _) (fun k _ hk => List.mem_append_left _ hk) (fun _ _ z => by simp at z)
      · exact (F13.z (n := h.1) (by rw [F12.1.1]; omega)).mo (Nat.le_refl _) (fun _ _ z => by simp at z) (fun k _ hk => List.mem_append_left _ hk)
    have cnt : ∀ w, w < 8 → oK h13 (((fun w => if w = v then some b else o w) w).getD 34) 0 ∧ gI h13 (((fun w => if w = v then some b else o w) w).getD 34) 1 = nI (va_up cu v s.2.2.2.2.2 w) := fun w hw => by
      by_cases y : w = v
      · simp only [if_pos y]; rw [y, up_s]; exact ⟨B13.1, B13.2.2.1⟩
      · simp only [if_neg y]; rw [up_n y]
        refine ⟨FX.o (B w hw).1, ?_⟩
        rw [FX.gi (B w hw).1.1 ?_]
        · exact (B w hw).2
        · have e34 : (o w).getD 34 = 34 ∨ 126 ≤ (o w).getD 34 := by
            cases z : o w with
            | none => exact Or.inl rfl
            | some b' => exact Or.inr (bl w b' hw z)
          intro z
          simp [YWr, YWf] at z <;> omega
    refine ⟨_, OB13.2.2.2.1.1, E13.1, s1_units E13 cnt ⟨_, rfl, H1 v s h13 b rfl hv es Z5 FX ?_ ?_ hb B13 ok us E13 ⟨?_, y8, y19, y21⟩ ⟨?_, ?_, ?_⟩⟩⟩
    · rw [F13.1.1, F12.1.1, n11, n8]
    · rw [F13.1.2, F12.1.2, p11, F8.1.2, F5.1.2]
    · rw [y7, F12.gi (by simp), F11.gi (by omega) (by simp), F8.gi (by simp), F5.gi (by simp)]
    · rw [F13.gi (by simp), F12.gi (by simp), F11.gi (by omega) (by simp)]; exact x1
    · rw [F13.gi (by simp), F12.gi (by simp), F11.gi (by omega) (by simp), x2]; exact G5.1
    · rw [F13.gi (by simp), F12.gi (by simp), F11.gi (by omega) (by simp), x3]; exact G5.2
  · have OB5 := cOb_fr O F5 (by decide)
    exact ol OB5 L5.2.2.2.2.1.1 L5.1 (fun h8 F8 x1 x2 x3 => ⟨rfl, br_t rfl (H2 v e h8 rfl hv ee Z5 ((F5.mo (fun _ z => z) (fun k hk => List.mem_append_right _ hk)).tr (F8.mo (by simp) (fun k hk => List.mem_append_left _ hk))) x1 (by rw [x2]; exact E5.1) (by rw [x3]; exact E5.2.1))⟩)
end

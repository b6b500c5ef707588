/-! ===== the class reads one wording ===== -/
section
variable {h h' : zH} {Q : Option Value → zH → Prop} {n i t own ot lim : Nat} {bs : Nat → Nat} {K : zKs}
abbrev XOn : List Nat := [5, 6, 7, 8, 9]
abbrev YOn : List (Nat × Nat) := [(1, 3), (1, 4), (1, 5), (1, 6), (1, 7), (1, 8), (1, 9), (1, 10), (1, 11), (1, 12), (1, 13), (2, 6), (2, 7), (2, 8), (2, 9), (2, 10)]
theorem s4_readOne (Ky : cKy h t K) (O : kyO K) (ht : t = 70 ∨ t = 77) (L : cRr h) (T : cTp h n bs) (hl : ot + lim = 80) (ho : own < 8)
    (H1 : ∀ h' s, rwO n bs K own lim = .inr s → fuelS n bs K own lim 1602 (0, [], [], (0, c00), (0, 0)) → fr XOn YOn h h' → cRr h' → cGd h' → (∃ S w av as_, cWd h' S s.2.2.2.1.1 s.2.2.2.1.2 w (ot + s.2.2.2.2.2) av as_ ∧ (av < 256 ∧ ∀ v, av.testBit v = akV s.2.2.2.1.1 s.2.2.2.1.2 v) ∧ (as_ < 256 ∧ ∀ v, as_.testBit v = akS s.2.2.2.1.1 s.2.2.2.1.2 v)) → gI h' 1 9 = nI ot → okC K.2.2.1 K.1.1 own s.2.2.2.1.1 s.2.2.2.1.2 → s.2.2.2.2.2 ≤ lim → Q (some (.int 1)) h')
    (H2 : ∀ h' e, rwO n bs K own lim = .inl e → fuelS n bs K own lim 1602 (0, [], [], (0, c00), (0, 0)) → fr XOn YOn h h' → cRr h' → cFl h' e → Q (some (.int 0)) h') : zC mX4_readOne [.ref 1, .ref t, .int (nI own), .int (nI ot)] h Q := by
  refine nX4_readOne _ _ _ _ _ _ (bX4_readOne_0 _ _ _ _ _ _ ⟨L.1, s4_begin (t := t) (w := ot) L T (fun h2 tc F2 P2 r2 u2 => ⟨rfl, P2.1.1.1, ?_⟩)⟩)
  have o9 := P2.1.1.1
  have G2 : fr XOn YOn h h2 := F2.mo (by simp) (by simp)
  refine nX4_beginBallot _ _ _ _ (bX4_beginBallot_0 _ _ _ _ ⟨o9, fun a2 e2 a4 e4 a6 e6 a8 e8 a10 e10 a12 e12 a14 e14 => ⟨rfl, ?_⟩⟩)
  have f2 : fr [] [(1, 7), (1, 9), (1, 10), (1, 11), (1, 4), (1, 5), (1, 6)] h2 a2 := by rw [e2]; exact fr_pF (by simp) o9 rfl rfl
  rw [f2.gi (by simp), u2] at e4
  have f4 : fr [] [(1, 7), (1, 9), (1, 10), (1, 11), (1, 4), (1, 5), (1, 6)] a2 a4 := by rw [e4]; exact fr_pF (by simp) (f2.o o9) rfl rfl
  have f6 : fr [] [(1, 7), (1, 9), (1, 10), (1, 11), (1, 4), (1, 5), (1, 6)] a4 a6 := by rw [e6]; exact fr_pF (by simp) (f4.o (f2.o o9)) rfl rfl
  have f8 : fr [] [(1, 7), (1, 9), (1, 10), (1, 11), (1, 4), (1, 5), (1, 6)] a6 a8 := by rw [e8]; exact fr_pF (by simp) (f6.o (f4.o (f2.o o9))) rfl rfl
  have f10 : fr [] [(1, 7), (1, 9), (1, 10), (1, 11), (1, 4), (1, 5), (1, 6)] a8 a10 := by rw [e10]; exact fr_pF (by simp) (f8.o (f6.o (f4.o (f2.o o9)))) rfl rfl
  have f12 : fr [] [(1, 7), (1, 9), (1, 10), (1, 11), (1, 4), (1, 5), (1, 6)] a10 a12 := by rw [e12]; exact fr_pF (by simp) (f10.o (f8.o (f6.o (f4.o (f2.o o9))))) rfl rfl
  have f14 : fr [] [(1, 7), (1, 9), (1, 10), (1, 11), (1, 4), (1, 5), (1, 6)] a12 a14 := by rw [e14]; exact fr_pF (by simp) (f12.o (f10.o (f8.o (f6.o (f4.o (f2.o o9)))))) rfl rfl
  have o2 := f2.o o9
  have o4 := f4.o o2
  have o6 := f6.o o4
  have o8 := f8.o o6
  have o10 := f10.o o8
  have o12 := f12.o o10
  have FA := f2.tr (f4.tr (f6.tr (f8.tr (f10.tr (f12.tr f14)))))
  have q7 : gI a14 1 7 = nI own := by rw [e14, gI_pF_n (Or.inr (by decide)), e12, gI_pF_n (Or.inr (by decide)), e10, gI_pF_n (Or.inr (by decide)), e8, gI_pF_n (Or.inr (by decide)), e6, gI_pF_n (Or.inr (by decide)), e4, gI_pF_n (Or.inr (by decide)), e2, gI_pF_s o9 (by decide)]
  have q9 : gI a14 1 9 = nI ot := by rw [e14, gI_pF_n (Or.inr (by decide)), e12, gI_pF_n (Or.inr (by decide)), e10, gI_pF_n (Or.inr (by decide)), e8, gI_pF_n (Or.inr (by decide)), e6, gI_pF_n (Or.inr (by decide)), e4, gI_pF_s o2 (by decide)]
  have q10 : gI a14 1 10 = nI 0 := by rw [e14, gI_pF_n (Or.inr (by decide)), e12, gI_pF_n (Or.inr (by decide)), e10, gI_pF_n (Or.inr (by decide)), e8, gI_pF_n (Or.inr (by decide)), e6, gI_pF_s o4 (by decide)]; rfl
  have q11 : gI a14 1 11 = nI 0 := by rw [e14, gI_pF_n (Or.inr (by decide)), e12, gI_pF_n (Or.inr (by decide)), e10, gI_pF_n (Or.inr (by decide)), e8, gI_pF_s o6 (by decide)]; rfl
  have q4 : gI a14 1 4 = nI 0 := by rw [e14, gI_pF_n (Or.inr (by decide)), e12, gI_pF_n (Or.inr (by decide)), e10, gI_pF_s o8 (by decide)]; rfl
  have q5 : gI a14 1 5 = nI 0 := by rw [e14, gI_pF_n (Or.inr (by decide)), e12, gI_pF_s o10 (by decide)]; rfl
  have q6 : gI a14 1 6 = nI 0 := by rw [e14, gI_pF_s o12 (by decide)]; rfl
  have q8 : gI a14 1 8 = nI ot := by rw [FA.gi (by simp)]; exact u2
  have GA : fr XOn YOn h a14 := G2.tr (FA.mo (by simp) (by simp))
  have nt : ∀ j, t + j ∉ XOn := fun j z => by simp at z; omega
  have nf : ∀ f, (t, f) ∉ YOn := fun f z => by simp at z; omega
  have K14 : cKy a14 t K := Ky.fr GA (nt 1) (nt 2) (nt 3) (fun f _ => nf f)
  have P14 : cEx a14 n bs tc 0 := ⟨P2.1.fr FA (by decide) (by decide) (by decide), P2.2.fr FA (by simp)⟩
  have V14 : cEv a14 t K own := ⟨by rw [FA.gr (by simp)]; exact r2, ht, K14, q7, ho⟩
  have X14 : cSt a14 n bs tc ot (0, [], [], (0, c00), (0, 0)) := ⟨P14, 0, 0, ⟨⟨q5, trivial⟩, ⟨q4, fun j hj => absurd hj (Nat.not_lt_zero j)⟩, q6, q8, q10, q11⟩, ⟨by decide, fun v => by rw [Nat.zero_testBit]; rfl⟩, ⟨by decide, fun v => by rw [Nat.zero_testBit]; rfl⟩⟩
  refine ⟨P14.1.1.1, nX4_readWording _ _ _ (bX4_readWording_0 _ _ _ (s4_words O hl 1602 0 _ a14 rfl (fun _ => Nat.zero_le _) (Nat.zero_le _) V14 (Ivs_0 (by omega)) X14 (fun s es p4 J' h6 F6 X6 => ⟨_, rfl, br_f (by decide +kernel) ?_⟩) (fun e es h6 F6 L6 => ⟨_, rfl, br_t rfl (H2 h6 e (by unfold rwO; rw [es]) (Or.inl ⟨e, es⟩) (GA.tr (F6.mo (by simp) (by simp))) L6.l L6.2)⟩)))⟩
  have Z : fuelS n bs K own lim 1602 (0, [], [], (0, c00), (0, 0)) := Or.inr ⟨s, es, p4⟩
  have ok := Ivs_ok J' p4
  have us : s.2.2.2.2.2 ≤ lim := J'.2.2.1
  obtain ⟨P6, av, as_, D6, bv6, bS6⟩ := X6
  have G6 : fr XOn YOn h h6 := GA.tr (F6.mo (by simp) (by simp))
  have b31 := (tk_k (n := n) (bs := bs) s.2.2.2.2.1).1
  refine ⟨P6.1.1.1, _, P6.1.1.2.1, P6.1.1.2.2.2.2.1.1, ?_⟩
  rw [P6.1.2.2.2.2.1, nI_lit 30, nI_eq (by omega) (by decide)]
  refine ⟨fun q => H1 h6 s (by unfold rwO; rw [es]; simp only []; rw [if_pos q]) Z G6 P6.1.1 P6.2 ⟨_, _, av, as_, D6, bv6, bS6⟩ (by rw [F6.gi (by simp)]; exact q9) ok us, fun q => u4_fail (k := 2) P6 (by decide) (fun h7 F7 L7 => ⟨_, rfl, br_t rfl (H2 h7 _ (by unfold rwO; rw [es]; simp only []; rw [if_neg q]; rfl) Z (G6.tr (F7.mo (by simp) (by simp))) L7.l L7.2)⟩)⟩
end

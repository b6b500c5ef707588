/-! ===== the reference: back; what is told about ===== -/
section
variable {HL : List zHd} {h h' h2 : zH} {b N ns V xv : Nat} {st wt mm : Nat → Nat} {Q : Option Value → zH → Prop} {X : List Nat} {Y : List (Nat × Nat)} {f : (Nat → Nat) → Nat → Nat} {cn cu : Nat → Nat} {cd : Nat → Nat → Nat × Nat × Nat}
def XKR : List Nat := [97, 98, 99, 100, 101, 106, 107, 108, 109, 111, 116, 117, 118, 119]
def YKR : List (Nat × Nat) := [(84, 43), (84, 54)]
theorem s12_back {bx : Nat → Option ((Nat → Nat) × List zHd)} {bn bu : Nat → Nat → Nat} {bd : Nat → Nat → Nat → Nat × Nat × Nat} (M : mT h b N ns V st wt) (E : gI h 84 40 = -1) (BX : ∀ j, j < 3 → mBX h V N j (bx j) (bn j) (bd j) (bu j)) (OC : ∀ j, j < 3 → ∀ v, v < V → okC V N v (bn j v) (bd j v)) {x : Int32}
    (H1 : ∀ j q h', x = nI j → j < 3 → bx j = some q → fr XKR YKR h h' → mHL h' q.2 → mH h' V N q.1 → (∀ v, v < 8 → mBl h' (8 * b + v) (bn j v) (bd j v) (bu j v)) → (∀ p, p / 8 ≠ b → slE h h' p) → mS h' N V (syF V N st wt (bn j) (bd j)) → Q (some (.int (nI q.2.length))) h')
    (H0 : (¬ (x = 0 ∨ x = 1 ∨ x = 2) ∨ ∃ j, x = nI j ∧ j < 3 ∧ bx j = none) → Q (some (.int (-1))) h) : zC mX12_back [.ref 84, .int x] h Q := by
  have hV := M.V8
  have hN := M.N3
  have hb := M.b2
  have vi : ∀ (h0 : zH) (a x m : Nat), aN h0 a = m → x < m → m < 2 ^ 31 → vp_in (nI x) (aN h0 a) := fun h0 a x m e h1 h2 => by rw [e]; exact vp_in_nI h1 h2
  refine nX12_back _ _ _ _ (bX12_back_0 _ _ _ _ (s12_isIn (fun q => ⟨_, rfl, br_t rfl (H0 (Or.inl (fun z => ?_)))⟩) (fun q1 q2 => ⟨_, rfl, br_f (by decide +kernel) ⟨M.l.o, _, M.l.r56, M.l.k56, ?_⟩⟩)))
  · rcases z with z | z | z <;> rw [z] at q <;> exact absurd q (by decide)
  obtain ⟨j, m1, rfl⟩ := nI_of q1
  rw [nI_lit 2, nI_ltI (by decide) m1] at q2
  have hj : j < 3 := by omega
  have BJ := BX j hj
  cases hq : bx j with
  | none =>
    rw [hq] at BJ
    have e0 : aI h 120 j = -1 := BJ
    refine ⟨vi _ _ _ _ M.l.n56 hj (by decide), ?_⟩
    rw [nI_clamp (by omega), e0]
    exact br_f (by decide) (H0 (Or.inr ⟨j, rfl, hj, hq⟩))
  | some q =>
    rw [hq] at BJ
    obtain ⟨e0, mk, hd, ho, bl⟩ := BJ
    have h20 := ho.1
    refine ⟨vi _ _ _ _ M.l.n56 hj (by decide), ?_⟩
    rw [nI_clamp (by omega), e0]
    refine br_t (nI_pos' (by omega)) ⟨vi _ _ _ _ M.l.n56 hj (by decide), fun h10 e10 => ?_⟩
    have F10 : fr XKR YKR h h10 := by rw [e10]; exact fr_pF (by decide) M.l.o rfl rfl
    have g10 : gI h10 84 54 = nI q.2.length := by rw [e10]; exact gI_pF_s M.l.o (by decide)
    have o10 : ∀ a, aI h10 a = aI h a := fun a => by rw [e10]; exact funext fun i => aI_pF
    have go : ∀ (d v : Nat) (h0 : zH), v + d = 8 → fr XKR YKR h h0 → gI h0 84 54 = nI q.2.length → (∀ p, p / 8 ≠ b → slE h h0 p) → (∀ w, w < v → mBl h0 (8 * b + w) (bn j w) (bd j w) (bu j w)) → (∀ w, w < v → aI h0 111 w = aI h 121 (8 * j + w)) → (∀ a, 116 ≤ a → aI h0 a = aI h a) → gI h0 84 40 = -1 → zX mX12_back 32 [.ref 84, .int (nI j), .int (nI v)] [] h0 Q := by
      intro d
      induction d with
      | zero =>
        intro v h0 hv F g S B a1 a2 g40
        have : v = 8 := by omega
        subst this
        have M0 := M.fr F (by decide)
        refine bX12_back_32 _ _ _ _ _ (br_t (by decide +kernel) ?_)
        refine l12_back_84 (h := h0) hj h20 (fun h' L' g' F' B1 B3 => ?_) q.2.length 0 h0 M0.l g (by omega) fr.rf (fun k _ i hi => absurd hi (Nat.not_lt_zero _)) (fun _ _ => rfl)
        have M' := M0.fr F' (by decide)
        have s' : ∀ p, slE h0 h' p := fun p => ⟨by rw [B3 97 (by decide)], by rw [B3 98 (by decide)], fun i _ => by rw [B3 99 (by decide), B3 100 (by decide), B3 101 (by decide)]; exact ⟨rfl, rfl, rfl⟩⟩
        have B' : ∀ v, v < 8 → mBl h' (8 * b + v) (bn j v) (bd j v) (bu j v) := fun v hv => (B v hv).sl (s' _)
        refine s12_layRows M' (by rw [F'.gi (by simp)]; exact g40) (cn := bn j) (cd := bd j) (fun v hv => ⟨(B' v (by omega)).1, OC j hj v hv⟩) (fun h3 F3 S3 => ⟨rfl, F3.o L'.o, ?_⟩)
        have g3 : gI h3 84 54 = nI q.2.length := by rw [F3.gi (by decide)]; exact g'
        have s3 : ∀ p, slE h' h3 p := fun p => slE.of F3 (by decide)
        rw [g3]
        have FF : fr XKR YKR h h3 := (F.tr (F'.mo (by decide) (by simp))).tr (F3.mo (by decide) (by decide))
        refine H1 j q h3 rfl hj hq FF ⟨g3, fun n y hy => ?_⟩ (fun v hv => ?_) (fun v hv => (B' v hv).sl (s3 _)) (fun p hp => ((S p hp).tr (s' p)).tr (s3 p)) S3
        · have hl := (List.getElem?_eq_some_iff.mp hy).1
          have t : ∀ k, k < 4 → aI h3 (116 + k) n = aI h (122 + k) (20 * j + n) := fun k hk => by
            have : 116 + k ∉ XR := by simp [XR]; omega
            rw [F3.i this, B1 k hk n hl, a2 (122 + k) (by omega)]
          have := hd n y hy
          rw [t 0 (by decide), t 1 (by decide), t 2 (by decide), t 3 (by decide)]
          exact this
        · rw [F3.i (by decide), B3 111 (by decide), a1 v (by omega)]
          exact mk v hv
      | succ d ih =>
        intro v h0 hv F g S B a1 a2 g40
        have M0 := M.fr F (by decide)
        have e1 : (8 : Int32) * nI j + nI v = nI (8 * j + v) := ix8 _ _
        have c1 : (nI (8 * j + v)).toNatClampNeg = 8 * j + v := nI_clamp (by omega)
        have cv : (nI v).toNatClampNeg = v := nI_clamp (by omega)
        refine bX12_back_32 _ _ _ _ _ (br_f (nI_ge (b := 8) (by omega) (by decide)) ⟨M0.l.o, _, M0.l.r45, _, M0.l.r57, M0.l.k57, ?_⟩)
        rw [e1, c1, cv]
        refine ⟨vi _ _ _ _ M0.l.n57 (by omega) (by decide), M0.l.k45, vi _ _ _ _ M0.l.n45 (by omega) (by decide), fun h9 e9 => ?_⟩
        have F9 : fr XKR YKR h0 h9 := by rw [e9]; exact fr_pI (by decide)
        have M9 := M0.fr F9 (by decide)
        have e2 : (8 : Int32) * ((2 : Int32) + nI j) + nI v = nI (8 * (2 + j) + v) := by rw [nI_lit 2, nI_add, ix8]
        rw [M9.b26, ix8, e2]
        have s9 : ∀ p, slE h0 h9 p := fun p => ⟨by rw [e9, aI_pI_n (Or.inl (by decide))], by rw [e9, aI_pI_n (Or.inl (by decide))], fun i _ => by rw [e9]; exact ⟨aI_pI_n (Or.inl (by decide)), aI_pI_n (Or.inl (by decide)), aI_pI_n (Or.inl (by decide))⟩⟩
        have bl9 : mBl h9 (8 * (2 + j) + v) (bn j v) (bd j v) (bu j v) := ((bl v (by omega)).sl (S _ (by omega))).sl (s9 _)
        refine s12_copyBallot M9.l bl9 (by omega) (by omega) (by omega) (fun h13 F13 B13 S13 => ⟨rfl, ?_⟩)
        have o13 : ∀ a, a ∉ XB → aI h13 a = aI h9 a := fun a ha => F13.i ha
        have x9 : ∀ i, aI h9 111 i = if i = v then aI h0 121 (8 * j + v) else aI h0 111 i := fun i => by rw [e9, aI_pI ⟨_, M0.l.k45⟩]; simp
        rw [nI_1]
        refine ih (v + 1) h13 (by omega) ((F.tr F9).tr (F13.mo (by decide) (by simp))) (by rw [F13.gi (by simp), e9, gI_pI]; exact g) (fun p hp => ((S p hp).tr (s9 p)).tr (S13 p (by omega))) (fun w hw => ?_) (fun w hw => ?_) (fun a ha => ?_) (by rw [F13.gi (by simp), e9, gI_pI]; exact g40)
        · by_cases z : w = v
          · subst z; exact B13
          · exact ((B w (by omega)).sl (s9 _)).sl (S13 _ (by omega))
        · rw [o13 111 (by decide), x9]
          by_cases z : w = v
          · subst z; rw [if_pos rfl, a2 121 (by decide)]
          · rw [if_neg z]; exact a1 w (by omega)
        · have : a ∉ XB := by simp [XB]; omega
          rw [o13 a this, ← a2 a ha]; funext i; rw [e9, aI_pI_n (Or.inl (by omega))]
    exact go 8 0 h10 rfl F10 g10 (fun p _ => ⟨by rw [o10], by rw [o10], fun i _ => by rw [o10, o10, o10]; exact ⟨rfl, rfl, rfl⟩⟩) (fun w hw => absurd hw (Nat.not_lt_zero _)) (fun w hw => absurd hw (Nat.not_lt_zero _)) (fun a _ => o10 a) (by rw [e10, gI_pF_n (Or.inr (by decide))]; exact E)
theorem s12_end {tl : Nat} (L : mLay h) (T : gI h 84 2 = nI tl) (hT : tl ≤ 1600) {x : Int32} (H1 : ∀ n h', x = nI n → n ≤ tl → fr [] [(84, 2)] h h' → gI h' 84 2 = nI n → Q (some (.int (nI n))) h') (H0 : (x < 0 ∨ nI tl < x) → Q (some (.int (-1))) h) : zC mX12_end [.ref 84, .int x] h Q := by
  refine nX12_end _ _ _ _ (bX12_end_0 _ _ _ _ ⟨fun q => H0 (Or.inl q), fun q => ⟨L.o, ?_⟩⟩)
  obtain ⟨n, m1, rfl⟩ := nI_of q
  rw [T, nI_leI m1 (by omega)]
  exact ⟨fun z h4 e4 => H1 n h4 rfl z (by rw [e4]; exact fr_pF (by simp) L.o rfl rfl) (by rw [e4]; exact gI_pF_s L.o (by decide)), fun z => H0 (Or.inr (nI_lt (by omega) m1))⟩
theorem s12_fault {fk : Nat} {fp : Int32} (L : mLay h) (T : gI h 84 4 = nI fk) (T2 : gI h 84 5 = fp) {x : Int32} (H : Q (some (.int (if x = 0 then nI fk else if x = 1 then fp else -1))) h) : zC mX12_fault [.ref 84, .int x] h Q := by
  refine nX12_fault _ _ _ _ (bX12_fault_0 _ _ _ _ ⟨fun q => ⟨L.o, ?_⟩, fun q => ⟨fun q2 => ⟨L.o, ?_⟩, fun q2 => ?_⟩⟩)
  · rw [if_pos q] at H; rw [T]; exact H
  · rw [if_neg q, if_pos q2] at H; rw [T2]; exact H
  · rw [if_neg q, if_neg q2] at H; exact H
/-- what is told about -/
def abA (N ns V tk hl tm tl us : Nat) (x : Int32) : Int32 := if x = 0 then nI N else if x = 1 then nI ns else if x = 2 then nI V else if x = 3 then nI tk else if x = 4 then nI hl else if x = 5 then nI tm else if x = 6 then nI tl else if x = 7 then nI us else -1
theorem s12_about {tk tm tl : Nat} (M : mT h b N ns V st wt) (K : aI h 90 b = nI tk) (A : mHL h HL) (T : gI h 84 55 = nI tm) (T2 : gI h 84 2 = nI tl) (U : ∀ v, v < 8 → aI h 98 (8 * b + v) = nI (cu v)) {x : Int32} (H : Q (some (.int (abA N ns V tk HL.length tm tl (sm cu 0 8) x))) h) : zC mX12_about [.ref 84, .int x] h Q := by
  have hb := M.b2
  have vb : ∀ a, aN h a = 2 → vp_in (nI b) (aN h a) := fun a e => by rw [e]; exact vp_in_nI hb (by decide)
  have cb : (nI b).toNatClampNeg = b := nI_clamp (by omega)
  refine nX12_about _ _ _ _ (bX12_about_0 _ _ _ _ ⟨fun q => ?_, fun q => ?_, fun q => ?_, fun q => ?_, fun q => ?_, fun q => ?_, fun q => ?_, fun q => ?_, fun q0 q1 q2 q3 q4 q5 q6 q7 => ?_⟩)
  · subst q; exact bX12_about_48 _ _ _ ⟨M.l.o, s12_nameMany M ⟨_, rfl, H⟩⟩
  · subst q; exact bX12_about_53 _ _ _ ⟨M.l.o, _, M.l.r12, M.l.k12, by rw [M.b26]; exact vb _ M.l.n12, by rw [M.b26, cb, M.s88]; exact H⟩
  · subst q; exact bX12_about_63 _ _ _ ⟨M.l.o, s12_voterMany M ⟨_, rfl, H⟩⟩
  · subst q; exact bX12_about_68 _ _ _ ⟨M.l.o, _, M.l.r14, M.l.k14, by rw [M.b26]; exact vb _ M.l.n14, by rw [M.b26, cb, K]; exact H⟩
  · subst q; exact bX12_about_78 _ _ _ ⟨M.l.o, by rw [A.1]; exact H⟩
  · subst q; exact bX12_about_83 _ _ _ ⟨M.l.o, by rw [T]; exact H⟩
  · subst q; exact bX12_about_88 _ _ _ ⟨M.l.o, by rw [T2]; exact H⟩
  · subst q
    refine bX12_about_93 _ _ _ ⟨M.l.o, ?_⟩
    rw [M.b26]
    refine s12_unitsBut (o := 99) M.l (by omega) U (fun v hv => ⟨fun e => absurd e (fun e => ?_), fun e => by omega⟩) ⟨_, rfl, ?_⟩
    · have : nI v < 0 := by rw [e]; decide
      exact nI_pos (by omega) this
    · rw [sm_congr (g := cu) 8 0 (fun v _ hv => if_neg (by omega))]; exact H
  · refine bX12_about_103 _ _ ?_
    simpa [abA, q0, q1, q2, q3, q4, q5, q6, q7] using H
end

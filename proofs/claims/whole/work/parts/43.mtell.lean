/-! ===== the reference: the least set that can't be kept ===== -/
section
variable {h h' : zH} {b N ns V xv : Nat} {st wt mk : Nat → Nat} {Q : Option Value → zH → Prop} {X : List Nat} {Y : List (Nat × Nat)} {f : (Nat → Nat) → Nat → Nat}
theorem s12_bitsOf {s : Nat} (hs : s < 2 ^ 31) (H : Q (some (.int (nI (pcF s)))) h) : zC mX12_bitsOf [.int (nI s)] h Q := by
  have L : ∀ d j, j + d = 31 → zX mX12_bitsOf 4 [.int (nI s), .int (nI (sm (fun v => s / 2 ^ v % 2) 0 j)), .int (nI j)] [] h Q := by
    intro d
    induction d with
    | zero =>
      intro j hj
      have : j = 31 := by omega
      subst this
      exact bX12_bitsOf_4 _ _ _ _ _ (br_t (by decide +kernel) H)
    | succ d ih =>
      intro j hj
      refine bX12_bitsOf_4 _ _ _ _ _ (br_f (nI_ge (b := 31) (by omega) (by decide)) ?_)
      rw [nI_shr hs (by omega), nI_mod2, nI_add, nI_1]
      have := ih (j + 1) (by omega)
      rw [sm_last, Nat.zero_add] at this
      exact this
  exact nX12_bitsOf _ _ _ (bX12_bitsOf_0 _ _ _ (L 31 0 rfl))
/-- f asks of the V voters alone -/
def fC (V : Nat) (f : (Nat → Nat) → Nat → Nat) : Prop := ∀ mk mk', (∀ v, v < V → mk v = mk' v) → ∀ v, v < V → f mk v = f mk' v
theorem pcF_31 (y : Nat) : pcF y ≤ 31 := Nat.le_trans (sm_le _ 1 31 0 (fun i _ _ => by have := Nat.mod_lt (y / 2 ^ i) (by decide : 2 > 0); omega)) (by decide)
theorem ck_m {s : Nat} (hN : N ≤ 3) (hs : s < 2 ^ V) (hf : fC V f) : (∃ r, r < (N + 1) ^ V ∧ ∀ w, s.testBit w = true → (kpF (f (dg (N + 1) V r)) (dg (N + 1) V r) V).testBit w = true) ↔ ckP N V f s := by
  have hsv : ∀ w, s.testBit w = true → w < V := fun w hw => by
    rcases Nat.lt_or_ge w V with z | z
    · exact z
    · have : s.testBit w = false := Nat.testBit_lt_two_pow (Nat.lt_of_lt_of_le hs (Nat.pow_le_pow_right (by decide) z))
      rw [this] at hw; cases hw
  constructor
  · rintro ⟨r, r1, r2⟩
    refine ⟨crF N V r, crF_lt hN, cbB_iff.mpr (fun v hv => by rw [dg_cr hN v hv]; exact Nat.le_of_lt_succ (dg_lt (by omega))), fun v hv hsb => ?_⟩
    have := r2 v hsb
    rw [kpF_bit] at this
    simp at this
    rw [hf _ _ (dg_cr hN) v hv, dg_cr hN v hv]
    exact this.2
  · rintro ⟨r, r1, r2, r3⟩
    have m : r ∈ (List.range (4 ^ V)).filter (cbB N V) := List.mem_filter.mpr ⟨List.mem_range.mpr r1, r2⟩
    rw [rows_eq hN, List.mem_map] at m
    obtain ⟨q, q1, rfl⟩ := m
    refine ⟨q, List.mem_range.mp q1, fun w hw => ?_⟩
    have hw' := hsv w hw
    have := r3 w hw' hw
    rw [hf _ _ (dg_cr hN) w hw', dg_cr hN w hw'] at this
    rw [kpF_bit]
    simp [hw', this]
theorem s12_telling {p : Nat → Bool} (M : mT h b N ns V st wt) (S : mS h N V f) (hf : fC V f) (hp : ∀ s, s < 2 ^ V → (p s = true ↔ ¬ ckP N V f s)) (H : ∀ h', fr [110] [] h h' → Q (some (.int (oI (tlS p (2 ^ V) 0 none)))) h') : zC mX12_telling [.ref 84] h Q := by
  have hV := M.V8
  have hN := M.N3
  have hpw := pw_le hN hV
  have p2 : 2 ^ V ≤ 256 := Nat.le_trans (Nat.pow_le_pow_right (by decide) hV) (by decide)
  have p20 : 0 < 2 ^ V := Nat.two_pow_pos V
  have vb0 : vp_nar .boolean (0 : Int32) = 0 := by decide +kernel
  have vb1 : vp_nar .boolean (1 : Int32) = 1 := by decide +kernel
  generalize hk : (fun r => kpF (f (dg (N + 1) V r)) (dg (N + 1) V r) V) = kp
  have kplt : ∀ r, kp r < 2 ^ V := fun r => by rw [← hk]; exact kpF_lt
  -- what is above a kept one
  generalize hd : (fun s : Nat => ∃ r, r < (N + 1) ^ V ∧ ∀ w, s.testBit w = true → (kp r).testBit w = true) = dn
  have dnp : ∀ s, s < 2 ^ V → (p s = true ↔ ¬ dn s) := fun s hs => by
    rw [hp s hs, ← ck_m hN hs hf, ← hd, ← hk]
  have dstep : ∀ s, dn s ↔ ((∃ r, r < (N + 1) ^ V ∧ kp r = s) ∨ ∃ v, v < V ∧ s.testBit v = false ∧ dn (s ||| 2 ^ v)) := fun s => by
    rw [← hd]
    constructor
    · rintro ⟨r, r1, r2⟩
      by_cases e : kp r = s
      · exact Or.inl ⟨r, r1, e⟩
      · right
        have : ∃ w, (kp r).testBit w = true ∧ s.testBit w = false := by
          apply Classical.byContradiction
          intro hn
          apply e
          apply Nat.eq_of_testBit_eq
          intro i
          cases h1 : s.testBit i
          · cases h2 : (kp r).testBit i
            · rfl
            · exact absurd ⟨i, h2, h1⟩ hn
          · exact r2 i h1
        obtain ⟨w, w1, w2⟩ := this
        have hwV : w < V := by
          rcases Nat.lt_or_ge w V with z | z
          · exact z
          · have : (kp r).testBit w = false := Nat.testBit_lt_two_pow (Nat.lt_of_lt_of_le (kplt r) (Nat.pow_le_pow_right (by decide) z))
            rw [this] at w1; cases w1
        refine ⟨w, hwV, w2, r, r1, fun i hi => ?_⟩
        rw [tb_or2] at hi
        simp at hi
        rcases hi with hi | hi
        · exact r2 i hi
        · rw [← hi]; exact w1
    · rintro (⟨r, r1, r2⟩ | ⟨v, v1, v2, r, r1, r2⟩)
      · exact ⟨r, r1, fun w hw => by rw [r2]; exact hw⟩
      · exact ⟨r, r1, fun w hw => r2 w (by rw [tb_or2, hw]; rfl)⟩
  -- the last loop
  have fin : ∀ (h0 : zH), fr [110] [] h h0 → (∀ s, s < 2 ^ V → (aI h0 110 s = 1 ∧ dn s) ∨ (aI h0 110 s = 0 ∧ ¬ dn s)) → ∀ (d s : Nat) (best : Option Nat), s + d = 2 ^ V → (∀ x, best = some x → x < 2 ^ V) → Q (some (.int (oI (tlS p d s best)))) h0 → zX mX12_telling 113 [.ref 84, .int (oI best), .int (nI s)] [] h0 Q := by
    intro h0 F A d
    have M0 := M.fr F (by decide)
    induction d with
    | zero =>
      intro s best hs hb H
      have : s = 2 ^ V := by omega
      subst this
      refine bX12_telling_113 _ _ _ _ _ ⟨M0.l.o, s12_everybody M0 ⟨_, rfl, br_t (nI_lt (by omega) (by omega)) H⟩⟩
    | succ d ih =>
      intro s best hs hb H
      rw [tlS_s] at H
      refine bX12_telling_113 _ _ _ _ _ ⟨M0.l.o, s12_everybody M0 ⟨_, rfl, br_f (nI_nlt (by omega) (by omega)) ⟨M0.l.o, _, M0.l.r44, M0.l.k44, by rw [M0.l.n44]; exact vp_in_nI (by omega) (by decide), ?_⟩⟩⟩
      rw [nI_clamp (by omega)]
      have As := A s (by omega)
      refine ⟨fun q => ?_, fun q => ?_⟩
      · have hps : p s = true := by
          rw [dnp s (by omega)]
          rcases As with z | z
          · rw [z.1] at q; exact absurd q (by decide)
          · exact z.2
        refine ⟨fun q2 => ?_, fun q2 => ?_⟩
        · have : best = none := by
            cases best with
            | none => rfl
            | some x => exact absurd q2 (nI_pos (by have := hb x rfl; omega))
          subst this
          rw [nI_1]
          refine ih (s + 1) (some s) (by omega) (fun x hx => by cases hx; omega) ?_
          rw [lsB_n] at H
          simpa [hps] using H
        · cases best with
          | none => exact absurd (by decide) q2
          | some x =>
            have hx := hb x rfl
            have p1 := pcF_31 s
            have p3 := pcF_31 x
            refine s12_bitsOf (by omega) ⟨_, rfl, ?_⟩
            show zC mX12_bitsOf [.int (nI x)] h0 _
            refine s12_bitsOf (by omega) ⟨_, rfl, ?_⟩
            rw [nI_leI (by omega) (by omega), nI_1]
            refine ⟨fun q3 => ?_, fun q3 => ?_⟩
            · refine ih (s + 1) (some x) (by omega) hb ?_
              have : ¬ pcF s < pcF x := by omega
              rw [lsB_f this] at H
              simpa using H
            · refine ih (s + 1) (some s) (by omega) (fun y hy => by cases hy; omega) ?_
              have : pcF s < pcF x := by omega
              rw [lsB_t this] at H
              simpa [hps] using H
      · have hps : p s = false := by
          cases hq : p s
          · rfl
          · rw [dnp s (by omega)] at hq
            rcases As with z | z
            · exact absurd z.2 hq
            · exact absurd z.1 q
        rw [nI_1]
        refine ih (s + 1) best (by omega) hb ?_
        simpa [hps] using H
  -- closing downwards
  have inner : ∀ (j : Nat), j < 2 ^ V → (∀ h0, fr [110] [] h h0 → (∀ s, s < 2 ^ V → j ≤ s → (aI h0 110 s = 1 ∧ dn s) ∨ (aI h0 110 s = 0 ∧ ¬ dn s)) → (∀ s, s < j → (aI h0 110 s = 1 ∧ ∃ r, r < (N + 1) ^ V ∧ kp r = s) ∨ (aI h0 110 s = 0 ∧ ¬ ∃ r, r < (N + 1) ^ V ∧ kp r = s)) → zX mX12_telling 55 [.ref 84, .int (nI j + (-1)), .float 0] [] h0 Q) →
      ∀ (d w : Nat) (h0 : zH), w + d = V → fr [110] [] h h0 → (∀ s, s < 2 ^ V → j < s → (aI h0 110 s = 1 ∧ dn s) ∨ (aI h0 110 s = 0 ∧ ¬ dn s)) → (∀ s, s < j → (aI h0 110 s = 1 ∧ ∃ r, r < (N + 1) ^ V ∧ kp r = s) ∨ (aI h0 110 s = 0 ∧ ¬ ∃ r, r < (N + 1) ^ V ∧ kp r = s)) →
      ((aI h0 110 j = 1 ∧ ((∃ r, r < (N + 1) ^ V ∧ kp r = j) ∨ ∃ v, v < w ∧ j.testBit v = false ∧ dn (j ||| 2 ^ v))) ∨ (aI h0 110 j = 0 ∧ ¬ ((∃ r, r < (N + 1) ^ V ∧ kp r = j) ∨ ∃ v, v < w ∧ j.testBit v = false ∧ dn (j ||| 2 ^ v)))) → zX mX12_telling 61 [.ref 84, .int (nI j), .int (nI w)] [] h0 Q := by
    intro j hj go d
    induction d with
    | zero =>
      intro w h0 hw F A B C
      have : w = V := by omega
      subst this
      have M0 := M.fr F (by decide)
      refine bX12_telling_61 _ _ _ _ _ ⟨M0.l.o, s12_voterMany M0 ⟨_, rfl, br_t (nI_le (Nat.le_refl _) (by omega)) (go h0 F (fun s hs hs2 => ?_) B)⟩⟩
      by_cases z : s = j
      · subst z; rw [dstep s]; exact C
      · exact A s hs (by omega)
    | succ d ih =>
      intro w h0 hw F A B C
      have M0 := M.fr F (by decide)
      refine bX12_telling_61 _ _ _ _ _ ⟨M0.l.o, s12_voterMany M0 ⟨_, rfl, br_f (nI_ge (by omega) (by omega)) ?_⟩⟩
      have e0 : ((nI j >>> (nI w &&& 31)) &&& (1 : Int32)) = 0 ↔ j.testBit w = false := by
        rw [nI_shr (by omega) (by omega), nI_mod2, ← nI_0, nI_eq (by have := Nat.mod_lt (j / 2 ^ w) (by decide : 2 > 0); omega) (by decide)]
        have := tb j w
        cases hb : j.testBit w
        · rw [hb] at this; simp at this; simp [this]
        · rw [hb] at this; simp at this; simp [this]
      rw [e0, nI_1]
      refine ⟨fun q => ?_, fun q => ?_⟩
      · have hlt : j ||| 2 ^ w < 2 ^ V := Nat.or_lt_two_pow hj (Nat.pow_lt_pow_right (by decide) (by omega))
        have hgt : j < j ||| 2 ^ w := by
          rcases Nat.lt_or_ge j (j ||| 2 ^ w) with z | z
          · exact z
          · have e : j ||| 2 ^ w = j := Nat.le_antisymm z Nat.left_le_or
            have := tb_or2 j w w
            rw [e, q] at this; simp at this
        rw [nI_1shl (by omega), nI_or, nI_clamp (by omega), nI_clamp (by omega)]
        refine ⟨M0.l.o, _, M0.l.r44, M0.l.k44, by rw [M0.l.n44]; exact vp_in_nI (by omega) (by decide), ?_⟩
        have As := A _ hlt hgt
        refine ⟨fun q2 => ih (w + 1) h0 (by omega) F A B ?_, fun q2 => ⟨by rw [M0.l.n44]; exact vp_in_nI (by omega) (by decide), fun h12 e12 => ?_⟩⟩
        · have nd : ¬ dn (j ||| 2 ^ w) := by
            rcases As with z | z
            · rw [z.1] at q2; exact absurd q2 (by decide)
            · exact z.2
          have : (∃ v, v < w + 1 ∧ j.testBit v = false ∧ dn (j ||| 2 ^ v)) ↔ (∃ v, v < w ∧ j.testBit v = false ∧ dn (j ||| 2 ^ v)) := by
            constructor
            · rintro ⟨v, v1, v2, v3⟩
              by_cases z : v = w
              · subst z; exact absurd v3 nd
              · exact ⟨v, by omega, v2, v3⟩
            · rintro ⟨v, v1, v2⟩
              exact ⟨v, by omega, v2⟩
          rw [this]; exact C
        · have yd : dn (j ||| 2 ^ w) := by
            rcases As with z | z
            · exact z.2
            · exact absurd z.1 q2
          rw [vb1] at e12
          have F12 : fr [110] [] h0 h12 := by rw [e12]; exact fr_pI (by simp)
          refine ih (w + 1) h12 (by omega) (F.tr F12) (fun s hs hs2 => ?_) (fun s hs => ?_) (Or.inl ⟨by rw [e12]; exact aI_pI_s ⟨_, M0.l.k44⟩, Or.inr ⟨w, by omega, q, yd⟩⟩)
          · rw [e12, aI_pI_n (Or.inr (by omega))]; exact A s hs hs2
          · rw [e12, aI_pI_n (Or.inr (by omega))]; exact B s hs
      · refine ih (w + 1) h0 (by omega) F A B ?_
        have : (∃ v, v < w + 1 ∧ j.testBit v = false ∧ dn (j ||| 2 ^ v)) ↔ (∃ v, v < w ∧ j.testBit v = false ∧ dn (j ||| 2 ^ v)) := by
          constructor
          · rintro ⟨v, v1, v2, v3⟩
            by_cases z : v = w
            · subst z; exact absurd v2 q
            · exact ⟨v, by omega, v2, v3⟩
          · rintro ⟨v, v1, v2⟩
            exact ⟨v, by omega, v2⟩
        rw [this]; exact C
  have outer : ∀ (j : Nat), j ≤ 2 ^ V → ∀ h0, fr [110] [] h h0 → (∀ s, s < 2 ^ V → j ≤ s → (aI h0 110 s = 1 ∧ dn s) ∨ (aI h0 110 s = 0 ∧ ¬ dn s)) → (∀ s, s < j → (aI h0 110 s = 1 ∧ ∃ r, r < (N + 1) ^ V ∧ kp r = s) ∨ (aI h0 110 s = 0 ∧ ¬ ∃ r, r < (N + 1) ^ V ∧ kp r = s)) → zX mX12_telling 55 [.ref 84, .int (nI j + (-1)), .float 0] [] h0 Q := by
    intro j
    induction j with
    | zero =>
      intro hj h0 F A B
      exact bX12_telling_55 _ _ _ _ (br_t nI_d0 (fin h0 F (fun s hs => A s hs (Nat.zero_le _)) (2 ^ V) 0 none (by omega) (fun _ z => by cases z) (H h0 F)))
    | succ j ih =>
      intro hj h0 F A B
      rw [nI_dn]
      refine bX12_telling_55 _ _ _ _ (br_f (nI_pos (by omega)) (inner j (by omega) (ih (by omega)) V 0 h0 (by omega) F (fun s hs hs2 => A s hs (by omega)) (fun s hs => B s (by omega)) ?_))
      have := B j (by omega)
      simpa using this
  -- all rows
  have rowsL : ∀ (k r : Nat) (h0 : zH), r + k = (N + 1) ^ V → fr [110] [] h h0 → (∀ s, s < 2 ^ V → (aI h0 110 s = 1 ∧ ∃ r', r' < r ∧ kp r' = s) ∨ (aI h0 110 s = 0 ∧ ¬ ∃ r', r' < r ∧ kp r' = s)) → zX mX12_telling 24 [.ref 84, .int (nI r), .float 0] [] h0 Q := by
    intro k
    induction k with
    | zero =>
      intro r h0 hr F A
      have : r = (N + 1) ^ V := by omega
      subst this
      have M0 := M.fr F (by decide)
      have S0 := S.fr F (by decide) (by simp)
      refine bX12_telling_24 _ _ _ _ ⟨M0.l.o, br_t (by rw [S0.1]; exact nI_le (Nat.le_refl _) (by omega)) (s12_everybody M0 ⟨_, rfl, ?_⟩)⟩
      have := outer (2 ^ V) (Nat.le_refl _) h0 F (fun s hs hs2 => by omega) A
      have e : nI (2 ^ V) + (-1) = nI (2 ^ V - 1) := by
        obtain ⟨q, hq⟩ : ∃ q, 2 ^ V = q + 1 := ⟨2 ^ V - 1, by omega⟩
        rw [hq, nI_dn]; rfl
      rw [e] at this
      exact this
    | succ k ih =>
      intro r h0 hr F A
      have M0 := M.fr F (by decide)
      have S0 := S.fr F (by decide) (by simp)
      have e9 := (S0.2 r (by omega)).2
      have kr := kplt r
      refine bX12_telling_24 _ _ _ _ ⟨M0.l.o, br_f (by rw [S0.1]; exact nI_ge (by omega) (by omega)) ⟨_, M0.l.r44, _, M0.l.r42, M0.l.k42, by rw [M0.l.n42]; exact vp_in_nI (by omega) (by decide), M0.l.k44, ?_⟩⟩
      rw [nI_clamp (by omega), e9, show kpF (f (dg (N + 1) V r)) (dg (N + 1) V r) V = kp r by rw [← hk], nI_clamp (by omega), vb1, nI_1]
      refine ⟨by rw [M0.l.n44]; exact vp_in_nI (by omega) (by decide), fun h11 e11 => ih (r + 1) h11 (by omega) (F.tr (by rw [e11]; exact fr_pI (by simp))) (fun s hs => ?_)⟩
      by_cases z : s = kp r
      · exact Or.inl ⟨by rw [e11, z]; exact aI_pI_s ⟨_, M0.l.k44⟩, r, Nat.lt_succ_self r, z.symm⟩
      · rw [e11, aI_pI_n (Or.inr z)]
        rcases A s hs with ⟨q1, r', q2, q3⟩ | ⟨q1, q2⟩
        · exact Or.inl ⟨q1, r', by omega, q3⟩
        · refine Or.inr ⟨q1, fun ⟨r', y1, y2⟩ => ?_⟩
          by_cases y : r' = r
          · subst y; exact z y2.symm
          · exact q2 ⟨r', by omega, y2⟩
  have clr : ∀ (k j : Nat) (h0 : zH), j + k = 256 → fr [110] [] h h0 → (∀ s, s < j → aI h0 110 s = 0) → zX mX12_telling 2 [.ref 84, .int (nI j), .float 0] [] h0 Q := by
    intro k
    induction k with
    | zero =>
      intro j h0 hj F A
      have : j = 256 := by omega
      subst this
      exact bX12_telling_2 _ _ _ _ (br_t (by decide +kernel) (rowsL ((N + 1) ^ V) 0 h0 (by omega) F (fun s hs => Or.inr ⟨A s (by omega), fun ⟨r', y, _⟩ => absurd y (Nat.not_lt_zero _)⟩)))
    | succ k ih =>
      intro j h0 hj F A
      have M0 := M.fr F (by decide)
      refine bX12_telling_2 _ _ _ _ (br_f (nI_ge (b := 256) (by omega) (by decide)) ⟨M0.l.o, _, M0.l.r44, M0.l.k44, by rw [M0.l.n44]; exact vp_in_nI (by omega) (by decide), fun h6 e6 => ?_⟩)
      rw [nI_clamp (by omega), vb0] at e6
      rw [nI_1]
      refine ih (j + 1) h6 (by omega) (F.tr (by rw [e6]; exact fr_pI (by simp))) (fun s hs => ?_)
      by_cases z : s = j
      · rw [e6, z]; exact aI_pI_s ⟨_, M0.l.k44⟩
      · rw [e6, aI_pI_n (Or.inr z)]; exact A s (by omega)
  exact nX12_telling _ _ _ (bX12_telling_0 _ _ _ (clr 256 0 h rfl fr.rf (fun s hs => absurd hs (Nat.not_lt_zero _))))
end

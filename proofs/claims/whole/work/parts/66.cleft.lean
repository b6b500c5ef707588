/-! ===== the class: the object's own small methods ===== -/
section
variable {h h' : zH} {Q : Option Value → zH → Prop}
theorem s5_forget {p : Int32} (ho : oK h 12 5) (H : ∀ h', fr [] [(12, 7), (12, 8)] h h' → gI h' 12 7 = gI h 12 7 ||| p → gI h' 12 8 = 0 → Q none h') : zC mX5_forget [.ref 12, .int p] h Q := by
  refine nX5_forget _ _ _ _ (bX5_forget_0 _ _ _ _ ⟨ho, fun h2 e2 h4 e4 => ?_⟩)
  have F2 : fr [] [(12, 7), (12, 8)] h h2 := by rw [e2]; exact fr_pF (by simp) ho rfl rfl
  have F4 : fr [] [(12, 7), (12, 8)] h2 h4 := by rw [e4]; exact fr_pF (by simp) (F2.o ho) rfl rfl
  exact H h4 (F2.tr F4) (by rw [e4, gI_pF_n (Or.inr (by decide)), e2, gI_pF_s ho (by decide)]) (by rw [e4, gI_pF_s (F2.o ho) (by decide)])
theorem s11_forget {p : Int32} (ho : oK h 0 11) (r3 : gR h 0 3 = some 12) (r4 : gR h 0 4 = some 19) (r5 : gR h 0 5 = some 21) (o12 : oK h 12 5) (o19 : oK h 19 3) (o21 : oK h 21 7)
    (H0 : p = 0 → Q none h) (H : ∀ h', p ≠ 0 → fr [] [(12, 7), (12, 8), (19, 4), (21, 3)] h h' → gI h' 12 7 = gI h 12 7 ||| p → gI h' 12 8 = 0 → gI h' 19 4 = 0 → gI h' 21 3 = 0 → Q none h') : zC mX11_forget [.ref 0, .int p] h Q := by
  refine nX11_forget _ _ _ _ (bX11_forget_0 _ _ _ _ ⟨H0, fun q => ⟨ho, _, r3, o12, s5_forget o12 (fun h5 F5 a7 a8 => ⟨rfl, F5.o ho, _, by rw [F5.gr (by simp)]; exact r4, F5.o o19, fun h9 e9 => ?_⟩)⟩⟩)
  have G5 : fr [] [(12, 7), (12, 8), (19, 4), (21, 3)] h h5 := F5.mo (by simp) (by simp)
  have F9 : fr [] [(12, 7), (12, 8), (19, 4), (21, 3)] h5 h9 := by rw [e9]; exact fr_pF (by simp) (F5.o o19) rfl rfl
  have G9 := G5.tr F9
  refine ⟨_, by rw [G9.gr (by simp)]; exact r5, G9.o o21, fun h14 e14 => ?_⟩
  have F14 : fr [] [(12, 7), (12, 8), (19, 4), (21, 3)] h9 h14 := by rw [e14]; exact fr_pF (by simp) (G9.o o21) rfl rfl
  refine H h14 q (G9.tr F14) ?_ ?_ ?_ ?_
  · rw [e14, gI_pF_n (Or.inl (by decide)), e9, gI_pF_n (Or.inl (by decide))]; exact a7
  · rw [e14, gI_pF_n (Or.inl (by decide)), e9, gI_pF_n (Or.inl (by decide))]; exact a8
  · rw [e14, gI_pF_n (Or.inl (by decide)), e9, gI_pF_s (F5.o o19) (by decide)]
  · rw [e14, gI_pF_s (G9.o o21) (by decide)]
theorem s5_hasStanding {i : Int32} {n : Nat} (ho : oK h 12 5) (hg : gI h 12 5 = nI n) (hn : n < 2 ^ 31) (H1 : ∀ k, i = nI k → k < n → Q (some (.int 1)) h) (H0 : (∀ k, k < n → i ≠ nI k) → Q (some (.int 0)) h) : zC mX5_hasStanding [.ref 12, .int i] h Q := by
  refine nX5_hasStanding _ _ _ _ (bX5_hasStanding_0 _ _ _ _ ⟨fun q => H0 (fun k hk z => ?_), fun q => ⟨ho, ?_⟩⟩)
  · rw [z] at q; exact nI_pos (by omega) q
  · obtain ⟨m, m1, rfl⟩ := nI_of q
    rw [hg, nI_leI hn m1]
    refine ⟨fun z => H0 (fun k hk w => ?_), fun z => H1 m rfl (by omega)⟩
    have := (nI_eq (by omega) (by omega)).mp w
    omega
theorem s1_putBallot {v b : Nat} {o : Nat → Option Nat} (E : cEn h 33 o) (hv : v < 8) (hb : oK h b 0) (H : ∀ h', fr [36] [] h h' → cEn h' 33 (fun w => if w = v then some b else o w) → Q none h') : zC mX1_putBallot [.ref 33, .int (nI v), .ref b] h Q := by
  obtain ⟨a1, a2, a3, ⟨a4, a5⟩, a6, a7⟩ := E
  have ci : (nI v).toNatClampNeg = v := nI_clamp (by omega)
  refine nX1_putBallot _ _ _ _ _ (bX1_putBallot_0 _ _ _ _ _ (br_f (nI_pos (by omega)) ⟨a1, _, a3, a4, br_f (by rw [a5]; exact nI_ge (b := 8) (by omega) (by decide)) ⟨hb, by rw [a5]; exact vp_in_nI hv (by decide), fun h8 e8 => ?_⟩⟩))
  rw [ci] at e8
  have F : fr [36] [] h h8 := by rw [e8]; exact fr_pR (by simp)
  refine H h8 F ⟨F.o a1, by rw [F.gr (by simp)]; exact a2, by rw [F.gr (by simp)]; exact a3, ⟨F.rk a4, by rw [F.n]; exact a5⟩, by rw [F.gr (by simp)]; exact a6, fun w hw => ?_⟩
  show _ = if w = v then some b else o w
  by_cases z : w = v
  · rw [if_pos z, e8, z]; exact aR_pR_s ⟨_, a4⟩
  · rw [if_neg z, e8, aR_pR_n (Or.inr z)]; exact a7 w hw
theorem s1_beginWith {t : Nat} {o oo : Nat → Option Nat} (E : cEn h 33 oo) (ok : oK h 37 2) (ht : t = 70 ∨ t = 77) (to : oK h t 10) (tr : gR h t 5 = some (t + 6)) (tk : rK h (t + 6) 0 ∧ aN h (t + 6) = 8) (ta : ∀ v, v < 8 → aR h (t + 6) v = o v) (hb : ∀ v b, v < 8 → o v = some b → oK h b 0) (H : ∀ h', fr [36] [(33, 3), (37, 4)] h h' → cEn h' 33 o → gI h' 33 3 = 0 → gI h' 37 4 = 0 → Q none h') : zC mX1_beginWith [.ref 33, .ref t] h Q := by
  obtain ⟨a1, a2, a3, ⟨a4, a5⟩, a6, a7⟩ := E
  refine nX1_beginWith _ _ _ _ (bX1_beginWith_0 _ _ _ _ ⟨a1, fun h2 e2 => ?_⟩)
  have F2 : fr [36] [(33, 3), (37, 4)] h h2 := by rw [e2]; exact fr_pF (by simp) a1 rfl rfl
  refine ⟨_, by rw [F2.gr (by simp)]; exact a6, F2.o ok, fun h6 e6 => ?_⟩
  have F6 : fr [36] [(33, 3), (37, 4)] h2 h6 := by rw [e6]; exact fr_pF (by simp) (F2.o ok) rfl rfl
  have FF := F2.tr F6
  have g3 : gI h6 33 3 = 0 := by rw [e6, gI_pF_n (Or.inl (by decide)), e2, gI_pF_s a1 (by decide)]
  have g4 : gI h6 37 4 = 0 := by rw [e6, gI_pF_s (F2.o ok) (by decide)]
  have nt : ∀ f, f ≠ 3 → f ≠ 4 → (t, f) ∉ [((33 : Nat), (3 : Nat)), (37, 4)] := fun f h3 h4 => by
    simp only [List.mem_cons, List.not_mem_nil, or_false, Prod.mk.injEq]
    omega
  have go : ∀ (m i : Nat) (h0 : zH), i + m = 8 → fr [36] [] h6 h0 → (∀ j, j < i → aR h0 36 j = o j) → zX mX1_beginWith 15 [.ref 33, .ref t, .int (nI i)] [] h0 Q := by
    intro m
    induction m with
    | zero =>
      intro i h0 hi F A
      have : i = 8 := by omega
      subst this
      have FA := FF.tr (F.mo (X' := [36]) (Y' := [(33, 3), (37, 4)]) (by simp) (by simp))
      refine bX1_beginWith_15 _ _ _ _ _ ⟨FA.o a1, _, by rw [FA.gr (by simp)]; exact a3, FA.rk a4, br_t (by rw [FA.n, a5]; decide +kernel) ?_⟩
      exact H h0 FA ⟨FA.o a1, by rw [FA.gr (by simp)]; exact a2, by rw [FA.gr (by simp)]; exact a3, ⟨FA.rk a4, by rw [FA.n]; exact a5⟩, by rw [FA.gr (by simp)]; exact a6, A⟩ (by rw [F.gi (by simp)]; exact g3) (by rw [F.gi (by simp)]; exact g4)
    | succ m ih =>
      intro i h0 hi F A
      have FA := FF.tr (F.mo (X' := [36]) (Y' := [(33, 3), (37, 4)]) (by simp) (by simp))
      have ci : (nI i).toNatClampNeg = i := nI_clamp (by omega)
      have sv : aR h0 (t + 6) i = o i := by rw [FA.r (by simp; omega)]; exact ta i (by omega)
      have n8 : aN h0 36 = 8 := by rw [FA.n]; exact a5
      have nt8 : aN h0 (t + 6) = 8 := by rw [FA.n]; exact tk.2
      refine bX1_beginWith_15 _ _ _ _ _ ⟨FA.o a1, _, by rw [FA.gr (by simp)]; exact a3, FA.rk a4, br_f (by rw [n8]; exact nI_ge (b := 8) (by omega) (by decide)) ⟨FA.o to, _, by rw [FA.gr (nt 5 (by decide) (by decide))]; exact tr, FA.rk tk.1, br_f (by rw [nt8]; exact nI_ge (b := 8) (by omega) (by decide)) ⟨by rw [nt8]; exact vp_in_nI (by omega) (by decide), ?_⟩⟩⟩
      rw [ci, sv]
      refine ⟨fun v hv => FA.o (hb i v (by omega) hv), by rw [n8]; exact vp_in_nI (by omega) (by decide), fun h18 e18 => ?_⟩
      rw [nI_1]
      refine ih (i + 1) h18 (by omega) (F.tr (by rw [e18]; exact fr_pR (by simp))) (fun j hj => ?_)
      by_cases z : j = i
      · rw [e18, z]; exact aR_pR_s ⟨_, FA.rk a4⟩
      · rw [e18, aR_pR_n (Or.inr z)]; exact A j (by omega)
  exact go 8 0 h6 rfl fr.rf (fun j hj => absurd hj (Nat.not_lt_zero _))
theorem s11_endReading (ho : oK h 0 11) (r1 : gR h 0 1 = some 2) (r0 : gR h 0 0 = some 1) (o2 : oK h 2 8) (o1 : oK h 1 4) (H : ∀ h', fr [] [(2, 5), (0, 13), (0, 14)] h h' → gI h' 2 5 = 0 → gI h' 0 13 = gI h 1 12 → gI h' 0 14 = gI h 1 13 → Q none h') : zC mX11_endReading [.ref 0] h Q := by
  refine nX11_endReading _ _ _ (bX11_endReading_0 _ _ _ ⟨ho, _, r1, o2, fun h4 e4 => ?_⟩)
  have F4 : fr [] [(2, 5), (0, 13), (0, 14)] h h4 := by rw [e4]; exact fr_pF (by simp) o2 rfl rfl
  refine ⟨_, by rw [F4.gr (by simp)]; exact r0, F4.o o1, fun h9 e9 => ?_⟩
  have F9 : fr [] [(2, 5), (0, 13), (0, 14)] h4 h9 := by rw [e9]; exact fr_pF (by simp) (F4.o ho) rfl rfl
  have G9 := F4.tr F9
  refine ⟨_, by rw [G9.gr (by simp)]; exact r0, G9.o o1, fun h15 e15 => ?_⟩
  have F15 : fr [] [(2, 5), (0, 13), (0, 14)] h9 h15 := by rw [e15]; exact fr_pF (by simp) (G9.o ho) rfl rfl
  refine H h15 (G9.tr F15) ?_ ?_ ?_
  · rw [e15, gI_pF_n (Or.inl (by decide)), e9, gI_pF_n (Or.inl (by decide)), e4, gI_pF_s o2 (by decide)]
  · rw [e15, gI_pF_n (Or.inr (by decide)), e9, gI_pF_s (F4.o ho) (by decide), F4.gi (by simp)]
  · rw [e15, gI_pF_s (G9.o ho) (by decide), G9.gi (by simp)]
/-- the boxes' row -/
def cBxR (h : zH) : Prop := oK h 0 11 ∧ gR h 0 9 = some 42 ∧ rK h 42 1 ∧ aN h 42 = 3 ∧ ∀ k, k < 3 → aR h 42 k = some (43 + 9 * k)
theorem s11_boxAt {x : Int32} (B : cBxR h) (H1 : ∀ k, x = nI k → k < 3 → Q (some (.ref (43 + 9 * k))) h) (H0 : ¬ (x = 0 ∨ x = 1 ∨ x = 2) → Q (some (zr none)) h) : zC mX11_boxAt [.ref 0, .int x] h Q := by
  obtain ⟨b1, b2, b3, b4, b5⟩ := B
  refine nX11_boxAt _ _ _ _ (bX11_boxAt_0 _ _ _ _ ⟨fun q => H0 (fun z => ?_), fun q => ⟨b1, _, b2, b3, ?_⟩⟩)
  · rcases z with rfl | rfl | rfl <;> exact absurd q (by decide)
  · obtain ⟨m, m1, rfl⟩ := nI_of q
    rw [b4, nI_leI (by decide) m1]
    refine ⟨fun z => H0 (fun w => ?_), fun z => ⟨vp_in_nI (by omega) (by decide), ?_⟩⟩
    · rcases w with w | w | w
      · rw [← nI_0] at w; have := (nI_eq m1 (by decide)).mp w; omega
      · rw [nI_lit 1] at w; have := (nI_eq m1 (by decide)).mp w; omega
      · rw [nI_lit 2] at w; have := (nI_eq m1 (by decide)).mp w; omega
    · rw [nI_clamp m1, b5 m (by omega)]
      exact H1 m rfl (by omega)
theorem s11_empty {a : Nat} (ho : oK h a 1) (H : ∀ h', fr [] [(a, 4)] h h' → gI h' a 4 = 0 → Q none h') : zC mX11_empty [.ref a] h Q := by
  refine nX11_empty (some a) _ _ (bX11_empty_0 _ _ _ ⟨fun z => (by cases z), fun _ => ⟨a, rfl, ho, fun h4 e4 => ?_⟩⟩)
  exact H h4 (by rw [e4]; exact fr_pF (by simp) ho rfl rfl) (by rw [e4, gI_pF_s ho (by decide)])
end

/-! ===== the reference: all rows laid ===== -/
section
variable {h h' : zH} {b N ns V xv : Nat} {st wt mk : Nat → Nat} {Q : Option Value → zH → Prop} {X : List Nat} {Y : List (Nat × Nat)} {cn : Nat → Nat} {cd : Nat → Nat → Nat × Nat × Nat}
/-- the laid rows: f mk v is what v says of marks mk -/
def mS (h : zH) (N V : Nat) (f : (Nat → Nat) → Nat → Nat) : Prop := gI h 84 43 = nI ((N + 1) ^ V) ∧ ∀ r, r < (N + 1) ^ V → aI h 108 r = nI (sdF (f (dg (N + 1) V r)) V) ∧ aI h 109 r = nI (kpF (f (dg (N + 1) V r)) (dg (N + 1) V r) V)
theorem mS.fr {f : (Nat → Nat) → Nat → Nat} (S : mS h N V f) (F : fr X Y h h') (hX : [108, 109].all (fun k => !(X.contains k)) = true) (hY : (84, 43) ∉ Y) : mS h' N V f := by
  simp only [List.all_cons, List.all_nil, and_true, Bool.and_eq_true] at hX
  unfold mS
  rw [F.gi hY, F.i (ni_of hX.1), F.i (ni_of hX.2)]
  exact S
def XR : List Nat := [106, 107, 108, 109]
def YR : List (Nat × Nat) := [(84, 43)]
theorem l12_layRows_7 (M : mT h b N ns V st wt) : ∀ (d j : Nat) (h0 : zH), j + d = V → fr [] YR h h0 → gI h0 84 43 = nI ((N + 1) ^ j) → (∀ h', fr [] YR h h' → gI h' 84 43 = nI ((N + 1) ^ V) → zX mX12_layRows 38 [.ref 84, .int 0, .float 0, .float 0] [] h' Q) → zX mX12_layRows 7 [.ref 84, .int (nI j), .float 0, .float 0] [] h0 Q := by
  have hV := M.V8
  have hN := M.N3
  intro d
  induction d with
  | zero =>
    intro j h0 hj F e H
    have M0 := M.fr F (by decide)
    have : j = V := by omega
    subst this
    exact bX12_layRows_7 _ _ _ _ ⟨M0.l.o, s12_voterMany M0 ⟨_, rfl, br_t (nI_le (Nat.le_refl _) (by omega)) (H h0 F e)⟩⟩
  | succ d ih =>
    intro j h0 hj F e H
    have M0 := M.fr F (by decide)
    refine bX12_layRows_7 _ _ _ _ ⟨M0.l.o, s12_voterMany M0 ⟨_, rfl, br_f (nI_ge (by omega) (by omega)) ⟨M0.l.o, s12_nameMany M0 ⟨_, rfl, M0.l.o, fun h3 e3 => ?_⟩⟩⟩⟩
    have F3 : fr [] YR h0 h3 := by rw [e3]; exact fr_pF (by decide) M0.l.o rfl rfl
    rw [nI_1]
    refine ih (j + 1) h3 (by omega) (F.tr F3) ?_ H
    rw [e3, gI_pF_s M0.l.o (by decide), e, nI_1, nI_mul, Nat.pow_succ]
theorem l12_layRows_67 (M : mT h b N ns V st wt) (E : gI h 84 40 = -1) (B : mB h b V N cn cd) {r : Nat} (hr : r < (N + 1) ^ V) : ∀ (d j : Nat) (h0 : zH), j + d = V → fr XR YR h h0 → mM h0 V N (dg (N + 1) V r) →
    aI h0 108 r = nI (sdF (syF V N st wt cn cd (dg (N + 1) V r)) j) → aI h0 109 r = nI (kpF (syF V N st wt cn cd (dg (N + 1) V r)) (dg (N + 1) V r) j) →
    (∀ h', fr XR YR h h' → gI h' 84 43 = gI h0 84 43 → (∀ r', r' ≠ r → aI h' 108 r' = aI h0 108 r' ∧ aI h' 109 r' = aI h0 109 r') → aI h' 108 r = nI (sdF (syF V N st wt cn cd (dg (N + 1) V r)) V) → aI h' 109 r = nI (kpF (syF V N st wt cn cd (dg (N + 1) V r)) (dg (N + 1) V r) V) → zX mX12_layRows 38 [.ref 84, .int (nI (r + 1)), .float 0, .float 0] [] h' Q) →
    zX mX12_layRows 67 [.ref 84, .int (nI r), .int (nI j), .float 0] [] h0 Q := by
  have hV := M.V8
  have hN := M.N3
  have hp := pw_le hN hV
  intro d
  induction d with
  | zero =>
    intro j h0 hj F K e1 e2 H
    have M0 := M.fr F (by decide)
    have : j = V := by omega
    subst this
    refine bX12_layRows_67 _ _ _ _ _ ⟨M0.l.o, s12_voterMany M0 ⟨_, rfl, br_t (nI_le (Nat.le_refl _) (by omega)) ?_⟩⟩
    rw [nI_1]
    exact H h0 F rfl (fun _ _ => ⟨rfl, rfl⟩) e1 e2
  | succ d ih =>
    intro j h0 hj F K e1 e2 H
    have M0 := M.fr F (by decide)
    have E0 : mE h0 ns V 0 st wt (dg (N + 1) V r) := Or.inl ⟨rfl, by rw [F.gi (by decide), E]⟩
    have B0 := (B j (by omega))
    have C0 := B0.1.fr F (by decide)
    have cr : (nI r).toNatClampNeg = r := nI_clamp (by omega)
    have vr : ∀ a, aN h0 a = 65536 → vp_in (nI r) (aN h0 a) := fun a e => by rw [e]; exact vp_in_nI (by omega) (by decide)
    refine bX12_layRows_67 _ _ _ _ _ ⟨M0.l.o, s12_voterMany M0 ⟨_, rfl, br_f (nI_ge (by omega) (by omega)) ⟨M0.l.o, s12_saysNow M0 E0 K (by omega) C0 B0.2 (fun h6 F6 => ⟨_, rfl, ?_⟩)⟩⟩⟩
    rw [Nat.add_zero]
    generalize hx : sayF V N st wt (dg (N + 1) V r) j (cn j) (cd j) = x
    have hx' : syF V N st wt cn cd (dg (N + 1) V r) j = x := hx
    have hx3 : x ≤ N := by rw [← hx]; exact sayF_le (fun v hv => (K v hv).2) B0.2
    have M6 := M0.fr F6 (by decide)
    have K6 := K.fr F6 (by decide)
    have n6 : ∀ a, aN h6 a = aN h0 a := F6.n
    refine ⟨M6.l.o, _, M6.l.r41, M6.l.k41, by rw [n6]; exact vr _ M0.l.n41, by rw [n6]; exact vr _ M0.l.n41, fun h13 e13 => ?_⟩
    have F13 : fr XR YR h6 h13 := by rw [e13]; exact fr_pI (by decide)
    have M13 := M6.fr F13 (by decide)
    rw [cr, F6.i (by decide : (108 : Nat) ∉ [107]), e1, nI_lit 2, nI_mul, nI_shl (by omega) (Nat.lt_of_lt_of_le (Nat.mul_lt_mul_of_lt_of_le (show x < 4 by omega) (Nat.pow_le_pow_right (by decide) (show 2 * j ≤ 14 by omega)) (Nat.two_pow_pos _)) (by decide)), nI_or, ← Nat.shiftLeft_eq] at e13
    have e13' : aI h13 108 r = nI (sdF (syF V N st wt cn cd (dg (N + 1) V r)) (j + 1)) := by rw [e13, aI_pI_s ⟨_, M6.l.k41⟩, sdF, hx']
    have n13 : ∀ a, aN h13 a = aN h0 a := fun a => (F13.n a).trans (n6 a)
    have k13 : aI h13 106 j = nI (dg (N + 1) V r j) := by rw [e13, aI_pI_n (Or.inl (by decide))]; exact (K6 j (by omega)).1
    have k109 : aI h13 109 r = nI (kpF (syF V N st wt cn cd (dg (N + 1) V r)) (dg (N + 1) V r) j) := by rw [e13, aI_pI_n (Or.inl (by decide)), F6.i (by decide)]; exact e2
    have hm := (K6 j (by omega)).2
    have fin : ∀ h24 y, h24 = pI h13 109 r (nI (kpF (syF V N st wt cn cd (dg (N + 1) V r)) (dg (N + 1) V r) j) ||| y) → y = nI (if x = dg (N + 1) V r j then 1 <<< j else 0) → zX mX12_layRows 67 [.ref 84, .int (nI r), .int (nI j + 1), .float 0] [] h24 Q := fun h24 y e24 ey => by
      rw [ey, nI_or] at e24
      have F24 : fr XR YR h13 h24 := by rw [e24]; exact fr_pI (by decide)
      have F6' : fr XR YR h0 h6 := F6.mo (by decide) (by decide)
      rw [nI_1]
      refine ih (j + 1) h24 (by omega) (((F.tr F6').tr F13).tr F24) (fun v hv => ?_) ?_ ?_ (fun h' F' g1 g2 g3 g4 => H h' F' ?_ (fun r' hr' => ?_) g3 g4)
      · rw [e24, aI_pI_n (Or.inl (by decide)), e13, aI_pI_n (Or.inl (by decide))]
        exact K6 v hv
      · rw [e24, aI_pI_n (Or.inl (by decide))]; exact e13'
      · rw [e24, aI_pI_s ⟨_, M13.l.k42⟩, kpF, hx']
      · rw [g1, e24, gI_pI, e13, gI_pI, F6.gi (by decide)]
      · have := g2 r' hr'
        rw [e24, aI_pI_n (Or.inl (by decide)), aI_pI_n (Or.inr hr'), e13, aI_pI_n (Or.inr hr'), aI_pI_n (Or.inl (by decide)), F6.i (by decide), F6.i (by decide)] at this
        exact this
    refine ⟨_, M13.l.r42, M13.l.k42, by rw [n13]; exact vr _ M0.l.n42, _, M13.l.r38, M13.l.k38, by rw [M13.l.n38]; exact vp_in_nI (by omega) (by decide), ?_⟩
    rw [cr, k109, nI_clamp (by omega), k13, nI_eq (by omega) (by omega)]
    refine ⟨fun q => ⟨by rw [n13]; exact vr _ M0.l.n42, fun h24 e24 => fin h24 _ e24 ?_⟩, fun q => ⟨by rw [n13]; exact vr _ M0.l.n42, fun h24 e24 => fin h24 _ e24 ?_⟩⟩
    · rw [if_pos q, nI_lit 1, nI_shl (by omega) (Nat.lt_of_lt_of_le (Nat.mul_lt_mul_of_lt_of_le (show 1 < 2 by omega) (Nat.pow_le_pow_right (by decide) (show j ≤ 7 by omega)) (Nat.two_pow_pos _)) (by decide)), Nat.shiftLeft_eq]
    · rw [if_neg q]; rfl
theorem l12_layRows_38 (M : mT h b N ns V st wt) (E : gI h 84 40 = -1) (B : mB h b V N cn cd) : ∀ (d r : Nat) (h0 : zH), r + d = (N + 1) ^ V → fr XR YR h h0 → gI h0 84 43 = nI ((N + 1) ^ V) →
    (∀ r', r' < r → aI h0 108 r' = nI (sdF (syF V N st wt cn cd (dg (N + 1) V r')) V) ∧ aI h0 109 r' = nI (kpF (syF V N st wt cn cd (dg (N + 1) V r')) (dg (N + 1) V r') V)) →
    (∀ h', fr XR YR h h' → mS h' N V (syF V N st wt cn cd) → Q none h') → zX mX12_layRows 38 [.ref 84, .int (nI r), .float 0, .float 0] [] h0 Q := by
  have hV := M.V8
  have hN := M.N3
  have hp := pw_le hN hV
  intro d
  induction d with
  | zero =>
    intro r h0 hr F e1 e2 H
    have M0 := M.fr F (by decide)
    have : r = (N + 1) ^ V := by omega
    subst this
    exact bX12_layRows_38 _ _ _ _ ⟨M0.l.o, br_t (by rw [e1]; exact nI_le (Nat.le_refl _) (by omega)) (H h0 F ⟨e1, e2⟩)⟩
  | succ d ih =>
    intro r h0 hr F e1 e2 H
    have M0 := M.fr F (by decide)
    have cr : (nI r).toNatClampNeg = r := nI_clamp (by omega)
    refine bX12_layRows_38 _ _ _ _ ⟨M0.l.o, br_f (by rw [e1]; exact nI_ge (by omega) (by omega)) (s12_layMarks M0 (by omega) (fun h3 F3 _ K3 => ⟨rfl, ?_⟩))⟩
    have M3 := M0.fr F3 (by decide)
    refine ⟨M3.l.o, _, M3.l.r41, M3.l.k41, by rw [M3.l.n41]; exact vp_in_nI (by omega) (by decide), fun h8 e8 => ?_⟩
    rw [cr] at e8
    have F8 : fr XR YR h3 h8 := by rw [e8]; exact fr_pI (by decide)
    have M8 := M3.fr F8 (by decide)
    refine ⟨_, M8.l.r42, M8.l.k42, by rw [M8.l.n42]; exact vp_in_nI (by omega) (by decide), fun h14 e14 => ?_⟩
    rw [cr] at e14
    have F14 : fr XR YR h8 h14 := by rw [e14]; exact fr_pI (by decide)
    have F3' : fr XR YR h0 h3 := F3.mo (by decide) (by decide)
    have F0 := ((F.tr F3').tr F8).tr F14
    have g14 : gI h14 84 43 = nI ((N + 1) ^ V) := by rw [e14, gI_pI, e8, gI_pI, F3.gi (by decide), e1]
    refine l12_layRows_67 M E B (by omega) V 0 h14 (by omega) F0 (fun v hv => ?_) ?_ ?_ (fun h' F' q1 q2 q3 q4 => ?_)
    · rw [e14, aI_pI_n (Or.inl (by decide)), e8, aI_pI_n (Or.inl (by decide))]; exact K3 v hv
    · rw [e14, aI_pI_n (Or.inl (by decide)), e8, aI_pI_s ⟨_, M3.l.k41⟩]; rfl
    · rw [e14, aI_pI_s ⟨_, M8.l.k42⟩]; rfl
    · refine ih (r + 1) h' (by omega) F' (by rw [q1, g14]) (fun r' hr' => ?_) H
      by_cases z : r' = r
      · subst z; exact ⟨q3, q4⟩
      · have := q2 r' z
        rw [e14, aI_pI_n (Or.inl (by decide)), aI_pI_n (Or.inr z), e8, aI_pI_n (Or.inr z), aI_pI_n (Or.inl (by decide)), F3.i (by decide), F3.i (by decide)] at this
        rw [this.1, this.2]
        exact e2 r' (by omega)
theorem s12_layRows (M : mT h b N ns V st wt) (E : gI h 84 40 = -1) (B : mB h b V N cn cd) (H : ∀ h', fr XR YR h h' → mS h' N V (syF V N st wt cn cd) → Q none h') : zC mX12_layRows [.ref 84] h Q := by
  refine nX12_layRows _ _ _ (bX12_layRows_0 _ _ _ ⟨M.l.o, fun h2 e2 => ?_⟩)
  have F2 : fr [] YR h h2 := by rw [e2]; exact fr_pF (by decide) M.l.o rfl rfl
  refine l12_layRows_7 M V 0 h2 (by omega) F2 (by rw [e2, gI_pF_s M.l.o (by decide)]; rfl) (fun h3 F3 g3 => ?_)
  exact l12_layRows_38 M E B ((N + 1) ^ V) 0 h3 (by omega) (F3.mo (by decide) (by decide)) g3 (fun r hr => absurd hr (Nat.not_lt_zero _)) H
end

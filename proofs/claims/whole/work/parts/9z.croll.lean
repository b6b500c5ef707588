/-! ===== the class's roll, in any state ===== -/
section
variable {h h' h1 h2 : zH} {Q : Option Value → zH → Prop} {R : List Nat} {t t2 sc tc nc P c N V m : Nat} {o o' : Nat → Option Nat} {bo : Nat → Nat → Option Nat} {w w' : zSt} {x y z : Int32} {e : zEs} {q : Nat × Int32}
theorem cTn_fc2 {C : List Nat} {Y : List (Nat × Nat)} {K : zKs} {st wt : Nat → Nat} {told : Nat → Bool} (A : cTn h t t2 K st wt told) (ht : (t = 70 ∧ t2 = 77) ∨ (t = 77 ∧ t2 = 70)) (F : fc C R Y h h') (l : 126 ≤ h.1) (hC : ∀ k, t ≤ k → k ≤ t + 6 → k ∉ C) (hY : ∀ f, (t, f) ∉ Y) (hY2 : ∀ f, f < 6 → (t2, f) ∉ Y) : cTn h' t t2 K st wt told := by
  have tb : (70 ≤ t ∧ t + 7 ≤ 84) ∧ 70 ≤ t2 ∧ t2 + 7 ≤ 84 := by omega
  obtain ⟨⟨a1, a2, ⟨a3, a4, a5⟩, ⟨a6, a7, a8⟩, a9, a10, a11, a12, a13⟩, ⟨k0, ⟨k1, k2, k3, k4, k5⟩, ⟨l1, l2, l3, l4, l5⟩, m1, m2, m3, m4, m5⟩, ⟨T2, T1⟩, tbb, g1, g2, g3⟩ := A
  refine ⟨⟨a1, F.o a2, ⟨by rw [F.gr l (by omega) (hY _)]; exact a3, F.ik a4, by rw [F.n (by omega)]; exact a5⟩, ⟨by rw [F.gr l (by omega) (hY _)]; exact a6, F.ik a7, by rw [F.n (by omega)]; exact a8⟩, by rw [F.gi l (by omega) (hY _)]; exact a9, a10, by rw [F.gi l (by omega) (hY _)]; exact a11, a12, fun v hv => by rw [F.i l (by omega) (hC _ (by omega) (by omega)), F.i l (k := t + 5) (by omega) (hC _ (by omega) (by omega))]; exact a13 v hv⟩, ⟨F.o k0, ⟨?_, F.lk k2, ?_, ?_, fun j hj => ?_⟩, ⟨?_, F.lk l2, ?_, ?_, fun j hj => ?_⟩, ?_, F.lk m2, ?_, ?_, fun j hj => ?_⟩, ⟨cTo_fc T2 F l (by omega) hY2, cTo_fc T1 F l (by omega) (fun f _ => hY f)⟩, tbb, ?_, g2, g3⟩
  all_goals first | rw [F.gr l (by omega) (hY _)]; assumption | rw [F.gi l (by omega) (hY _)]; assumption | rw [F.n (by omega)]; assumption | (rw [F.l l (by omega) (hC _ (by omega) (by omega))]; first | exact k5 j hj | exact l5 j hj | exact m5 j hj)
def rdR (w : zSt) : zFt ⊕ (zRl × Nat) := lns (wP w).1 (wP w).2 1601 rl0 0
def fuR (w : zSt) : Prop := lnsS (wP w).1 (wP w).2 1601 rl0 0
abbrev nxR (w : zSt) (r : zRl) : zSt := ((r.1, r.2.1), (((r.2.2, ((fun _ => 0), [])), fun _ => none), ((0, (wP w).2), (wT w, ((0, -1) : Nat × Int32)))))
def dRoll (w : zSt) : Int32 × zSt := match rdR w with
  | .inl e => (-1, setR w (wE w) (e.1, nI e.2))
  | .inr q => (nI q.1.1.1.2.2.1, nxR w q.1)
theorem stO_roll {r : zRl} (O : stO w) (A : rlO r) : stO (nxR w r) := by
  refine ⟨A.1, fun v hv => ⟨(A.2.1 v hv).1, (A.2.1 v hv).2.2⟩, ⟨fun v hv => A.2.2.2.2.1 v, ⟨A.2.2.2.2.2, fun v hv => ?_⟩, fun v hv => Nat.zero_le _, ⟨Nat.zero_le _, fun q hq => by cases hq⟩⟩, fun k e he => (by cases he), O.2.2.2.2⟩
  refine A.2.2.2.1 v ?_
  cases z : r.2.1 v with
  | false => rfl
  | true => exact absurd (A.2.2.1 v z) (Nat.not_lt.mpr hv)
theorem r11_roll (A : cR h w P c) (H : ∀ h', fuR w → fk h h' → cR h' (dRoll w).2 P (c + 1) → Q (some (.int (dRoll w).1)) h') : zC mX11_roll [.ref 0] h Q := by
  obtain ⟨O, t, t2, o, bo, sc, tc, nc, A, B, Z⟩ := A
  have OB := A.1.2.2.1
  have l := A.1.1
  have htt := A.1.2.1
  have ht : t2 = 70 ∨ t2 = 77 := by omega
  have hR : ∀ k, k ∈ [sc, tc, nc] → k < h.1 := fun k hk => by
    obtain ⟨-, ⟨-, k2, -⟩, ⟨-, k3, -⟩, ⟨-, k4, -⟩, -⟩ := B.1
    simp only [List.mem_cons, List.not_mem_nil, or_false] at hk
    rcases hk with rfl | rfl | rfl
    · exact k2.1
    · exact k3.1
    · exact k4.1
  have B0 := B
  obtain ⟨⟨⟨o12, r0, r1, k15, n15⟩, ⟨r2, k2, c2, kk, hkk, n2⟩, ⟨r3, k3, c3, n3⟩, ⟨r4, k4, c4, n4⟩, d1, d2, d3⟩, B8, -⟩ := B
  refine s11_roll (R := [sc, tc, nc]) OB A.1.2.2.2.2 ht A.1.2.2.2.1.2.2.1.1 A.2.1.2.2.2.2.2.2.2.1 A.2.1.2.2.2.2.2.2.2.2 A.2.2.1.1.1 A.2.1.2.2.2.2.2.2.1 l hR (fun h3 q eq Zf Oq F n3' p3' OB3 W3 E3 g33 gbx g12 g25 => ?_) (fun h3 e ee Zf F n3' p3' x1 x2 x3 => ?_)
  · have ed : dRoll w = (nI q.1.1.1.2.2.1, nxR w q.1) := by
      unfold dRoll
      rw [show rdR w = .inr q from eq]
    rw [ed] at H
    have Fc : fc (XAr t2) [] (YAr t2) h h3 := fc_z F (fun _ z => Or.inl z)
    obtain ⟨⟨-, -, a1, a2, a3⟩, ⟨b1, b2, b3, b4, b5, b6, b7, b8, b9⟩, ⟨c1, c2'⟩, e1, e2, e3⟩ := A
    have V8 : q.1.1.1.2.2.1 ≤ 8 := Oq.1.2.2.1
    obtain ⟨wk, ⟨wl1, wl2, wl3⟩, wv, wtd, wbl⟩ := id W3
    have b5' : cTlk h3 := cTl_fc b5 Fc l (by rcases ht with rfl | rfl <;> decide)
    have gY : ∀ f, f < 5 → (12, f) ∉ YAr t2 := fun f hf z => by
      simp [YAr, YAf, YRR, YCr, YC0] at z
      omega
    have gr : ∀ f, f < 5 → gR h3 12 f = gR h 12 f := fun f hf => Fc.gr l (by decide) (gY f hf)
    have m2 : aN h3 sc = aN h sc := Fc.n k2.1
    have m3 : aN h3 tc = aN h tc := Fc.n k3.1
    have m4 : aN h3 nc = aN h nc := Fc.n k4.1
    have cell : ∀ k, k < 3 → cEn h3 (43 + 9 * k) (bo k) ∧ ∃ HL, cHl h3 (47 + 9 * k) HL := fun k hk => by
      have k3 : k = 0 ∨ k = 1 ∨ k = 2 := by omega
      obtain ⟨z1, HL, z2⟩ := cBo_E (c2' k hk)
      rw [show 43 + 9 * k + 4 = 47 + 9 * k by omega] at z2
      refine ⟨cEn_fc z1 Fc l (by omega) ?_ ?_, HL, cHl_fc z2 Fc l (by omega) ?_ ?_⟩
      all_goals (rcases k3 with rfl | rfl | rfl <;> rcases ht with rfl | rfl <;> decide)
    have A3 : cFx h3 (nxR w q.1) t2 t (fun v => aR h3 (t2 + 6) v) bo := by
      refine ⟨⟨by have := Fc.le; omega, by omega, OB3, ⟨⟨by omega, wk.1, wl1, wl2, wk.2.1.2.2.2.1, Oq.1.1.1, wk.2.2.2.2.2.2.1, V8, fun v hv => ⟨(wv v hv).1, (wv v hv).2, Nat.lt_of_lt_of_le (Oq.2.1 v hv).1 Oq.1.2.1.1, (Oq.2.1 v hv).2.2⟩⟩, wk, ⟨cTo_fc a2.2.2.1.2 Fc l (by omega) (fun f hf z => ?_), W3.o⟩, wtd⟩, cOs_fc a3 Fc⟩, ⟨cSp_fc b1 Fc l ?_, cSp_fc b2 Fc l ?_, cOl_fc b3 Fc l ?_, cSl_fc b4 Fc l ?_, b5', Fc.o b6, cBxR_fc b7 Fc l ?_ ?_, cRr_fc b8 Fc l ?_ ?_, ⟨g25.1, Nat.zero_le _, fun i hi => absurd hi (Nat.not_lt_zero i)⟩⟩, ⟨⟨E3, ?_, ?_⟩, fun k hk => ⟨gbx k hk, (cell k hk).1, (cell k hk).2⟩⟩, ?_, g25.2.1, g25.2.2⟩
      case refine_1 =>
        simp [YAr, YAf, YRR, YCr, YC0] at z
        omega
      case refine_10 =>
        obtain ⟨q1, q2, q3, -, -⟩ := c1.2.1
        have y : ∀ f, f < 4 → (37, f) ∉ YAr t2 := fun f hf z => by
          simp [YAr, YAf, YRR, YCr, YC0] at z
          omega
        exact ⟨Fc.o q1, ⟨by rw [Fc.gr l (by decide) (y 0 (by decide))]; exact q2.1, by rw [Fc.gr l (by decide) (y 1 (by decide))]; exact q2.2.1, by rw [Fc.gr l (by decide) (y 2 (by decide))]; exact q2.2.2.1, by rw [Fc.gr l (by decide) (y 3 (by decide))]; exact q2.2.2.2⟩, fun k hk => ⟨Fc.ik (q3 k hk).1, by rw [Fc.n (by omega)]; exact (q3 k hk).2⟩, g33.2, fun n q z => by cases n <;> cases z⟩
      case refine_11 => rw [g33.1]; show (0 : Int32) = nI (en 4 _ (fun _ => 0)); rw [en_0]; rfl
      case refine_12 => rw [Fc.gi l (by decide) (by rcases ht with rfl | rfl <;> decide)]; exact e1
      all_goals (rcases ht with rfl | rfl <;> decide)
    have S255 : gI h3 12 7 = nI 255 := by
      have D : ∃ S, gI h 12 7 = nI S ∧ S < 256 := by
        rcases B8 with ⟨-, S, D⟩ | ⟨-, D, -⟩
        · exact ⟨S, D.1, D.2.1⟩
        · exact ⟨0, D.1, D.2.1⟩
      obtain ⟨S, s1, s2⟩ := D
      rw [g12.1, s1, nI_lit 255, nI_or]
      have := Nat.or_lt_two_pow (n := 8) s2 (show 255 < 2 ^ 8 by decide)
      have := @Nat.right_le_or S 255
      rw [show S ||| 255 = 255 by omega]
    have n35 : 35 ∉ [sc, tc, nc] := fun z => by
      simp only [List.mem_cons, List.not_mem_nil, or_false] at z
      omega
    have B3 : cVr h3 (nxR w q.1) (fun v => aR h3 (t2 + 6) v) bo sc tc nc := by
      refine ⟨⟨⟨Fc.o o12, by rw [gr 0 (by decide)]; exact r0, by rw [gr 1 (by decide)]; exact r1, Fc.ik k15, by rw [Fc.n k15.1]; exact n15⟩, ⟨by rw [gr 2 (by decide)]; exact r2, Fc.ik k2, c2, kk, hkk, by rw [m2]; exact n2⟩, ⟨by rw [gr 3 (by decide)]; exact r3, Fc.ik k3, c3, by rw [m3]; exact n3⟩, ⟨by rw [gr 4 (by decide)]; exact r4, Fc.ik k4, c4, by rw [m4]; exact n4⟩, d1, d2, d3⟩, Or.inl ⟨g12.2.1, 255, S255, by decide, Or.inl rfl⟩, ⟨fun v hv => ?_, fun k e hk he => by cases he⟩, Or.inl g12.2.2.1, 0, g12.2.2.2, by decide, fun j _ hb => by rw [Nat.zero_testBit] at hb; cases hb⟩
      show cB h3 [sc, tc, nc] ((aR h3 (t2 + 6) v).getD 34) (q.1.2.2 v).1 (q.1.2.2 v).2.1 (q.1.2.2 v).2.2 ∧ ∀ b, aR h3 (t2 + 6) v = some b → 126 ≤ b
      cases z : q.1.2.1 v with
      | false =>
        rw [(wbl v hv).1 z, Oq.2.2.2.1 v z]
        exact ⟨cBk_B b5'.2 n35, fun b y => by cases y⟩
      | true =>
        obtain ⟨bl, y1, y2, y3⟩ := (wbl v hv).2 z
        rw [y1]
        exact ⟨y3, fun b y => by cases y; exact y2⟩
    exact H h3 Zf (fk_fc Fc (by rcases ht with rfl | rfl <;> decide) (by rcases ht with rfl | rfl <;> decide)) ⟨stO_roll O Oq, t2, t, _, bo, sc, tc, nc, A3, B3, ⟨by have := Z.1; omega, by rw [m2, m3, m4]; have := Z.2; omega⟩⟩
  · have ed : dRoll w = (-1, setR w (wE w) (e.1, nI e.2)) := by
      unfold dRoll
      rw [show rdR w = .inl e from ee]
    rw [ed] at H
    have Fc : fc (XRR t2) [] (YAf t2) h h3 := fc_z F (fun _ z => Or.inl z)
    have B3 := cVr_fc A B0 Fc (by rcases ht with rfl | rfl <;> decide) (by rcases ht with rfl | rfl <;> decide)
    obtain ⟨⟨-, -, a1, a2, a3⟩, ⟨b1, b2, b3, b4, b5, b6, b7, b8, b9⟩, ⟨c1, c2'⟩, e1, e2, e3⟩ := A
    have A3 : cFx h3 (setR w (wE w) (e.1, nI e.2)) t t2 o bo := by
      refine ⟨⟨by have := Fc.le; omega, htt, cOb_fc a1 Fc ?_, cTn_fc2 a2 htt Fc l (fun k h1 h2 z => ?_) (fun f z => ?_) (fun f hf z => ?_), cOs_fc a3 Fc⟩, ⟨cSp_fc b1 Fc l ?_, cSp_fc b2 Fc l ?_, cOl_fc b3 Fc l ?_, cSl_fc b4 Fc l ?_, cTl_fc b5 Fc l ?_, Fc.o b6, cBxR_fc b7 Fc l ?_ ?_, cRr_fc b8 Fc l ?_ ?_, ⟨x1, Nat.zero_le _, fun i hi => absurd hi (Nat.not_lt_zero i)⟩⟩, ⟨cEb_fc c1 Fc l (by decide) ?_ ?_, fun k hk => cBo_fc (c2' k hk) Fc l hk ?_ ?_⟩, ?_, x2, x3⟩
      case refine_2 => simp [XRR, XCr] at z; omega
      case refine_3 => simp [YAf, YRR, YCr, YC0] at z; omega
      case refine_4 => simp [YAf, YRR, YCr, YC0] at z; omega
      case refine_18 => rw [Fc.gi l (by decide) (by rcases ht with rfl | rfl <;> decide)]; exact e1
      all_goals (rcases ht with rfl | rfl <;> decide)
    exact H h3 Zf (fk_fc Fc (by rcases ht with rfl | rfl <;> decide) (by rcases ht with rfl | rfl <;> decide)) ⟨⟨O.1, O.2.1, O.2.2.1, O.2.2.2.1, O.2.2.2.2⟩, t, t2, o, bo, sc, tc, nc, A3, B3, ⟨by have := Z.1; omega, by rw [F.n k2.1, F.n k3.1, F.n k4.1]; have := Z.2; omega⟩⟩
end

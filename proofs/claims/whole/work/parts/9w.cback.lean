/-! ===== the class's image, back ===== -/
section
variable {h h' h1 h2 : zH} {Q : Option Value → zH → Prop} {R : List Nat} {t t2 sc tc nc P c N V : Nat} {o : Nat → Option Nat} {bo : Nat → Nat → Option Nat} {w w' : zSt} {x y z : Int32}
theorem okO_b {V N own n i : Nat} {H : Nat → Nat} {q : zOp} (A : okO V N own n i H q) (hN : N ≤ 3) (hV : V ≤ 8) (hn : n ≤ 640) : q.1 < 16 ∧ q.2.1 < 16 ∧ q.2.2 < 2 ^ 20 := by
  obtain ⟨a, b, d⟩ := q
  unfold okO at A
  dsimp only at A ⊢
  omega
theorem cd_inj {p q : zOp} (hp : p.1 < 16 ∧ p.2.1 < 16 ∧ p.2.2 < 2 ^ 20) (hq : q.1 < 16 ∧ q.2.1 < 16 ∧ q.2.2 < 2 ^ 20) (e : cdC p = cdC q) : p = q := by
  obtain ⟨a, b, d⟩ := p
  obtain ⟨a', b', d'⟩ := q
  have := (nI_eq (by dsimp only at hp ⊢; omega) (by dsimp only at hq ⊢; omega)).mp e
  dsimp only at *
  have h1 : a = a' := by omega
  have h2 : b = b' := by omega
  have h3 : d = d' := by omega
  rw [h1, h2, h3]
theorem ex_code {st wt mk : Nat → Nat} {own n : Nat} {a b : Nat → zOp} (e : ∀ i, i < n → a i = b i) : ∀ (k i ow : Nat) (l : List Int32), i + k = n → ex V N st wt mk own a k i ow l = ex V N st wt mk own b k i ow l
  | 0, _, _, _, _ => rfl
  | k + 1, i, ow, l, hi => by
    rw [ex, ex, e i (by omega)]
    split
    · exact ex_code e k (i + 1) ow l (by omega)
    · split
      · rfl
      · exact ex_code e k (i + 1) _ _ (by omega)
theorem cB_say {st wt mk : Nat → Nat} {own bl n m u u' : Nat} {R R' : List Nat} {a b : Nat → zOp} (A : cB h R bl n a u) (B : cB h R' bl m b u') (Oa : okC V N own n a) (Ob : okC V N own m b) (hN : N ≤ 3) (hV : V ≤ 8) : sayF V N st wt mk own n a = sayF V N st wt mk own m b := by
  obtain ⟨-, -, -, ⟨s, a1, -, -, -, a2, a3, a4⟩, -⟩ := A
  obtain ⟨-, -, -, ⟨s', b1, -, -, -, b2, b3, b4⟩, -⟩ := B
  rw [a1] at b1
  cases b1
  have nm : n = m := a2.symm.trans b2
  subst nm
  obtain ⟨-, Ha, -, ha⟩ := Oa
  obtain ⟨-, Hb, -, hb⟩ := Ob
  exact ex_code (fun i hi => cd_inj (okO_b (ha i hi).2 hN hV a3) (okO_b (hb i hi).2 hN hV a3) ((a4 i hi).symm.trans (b4 i hi))) n 0 0 [] (by omega)
theorem ix_3 (hx : ¬ (x = 0 ∨ x = 1 ∨ x = 2)) : ix x 3 = none := by
  unfold ix
  by_cases q : x < 0
  · rw [if_pos q]
  · obtain ⟨j, hj, rfl⟩ := nI_of q
    rw [if_neg q, nI_clamp hj, if_neg]
    intro y
    have : j = 0 ∨ j = 1 ∨ j = 2 := by omega
    rcases this with rfl | rfl | rfl <;> exact hx (by decide)
theorem cBo_fc2 {C : List Nat} {Y : List (Nat × Nat)} {k : Nat} {q : Option zEs} {o : Nat → Option Nat} (A : cBo h V k o q) (F : fc C R Y h h') (l : 126 ≤ h.1) (hk : k < 3) (hC : C.all (fun j => decide (j < 43 + 9 * k ∨ 52 + 9 * k ≤ j)) = true) (hY : Y.all (fun q => decide (q.1 < 43 + 9 * k ∨ 52 + 9 * k ≤ q.1)) = true) : cBo h' V k o q := by
  have nC : ∀ j, 43 + 9 * k ≤ j → j < 52 + 9 * k → (!(C.contains j)) = true := fun j h1 h2 => by
    have : j ∉ C := fun z => by have := List.all_eq_true.mp hC j z; simp at this; omega
    simpa using this
  have nY : ∀ j f, 43 + 9 * k ≤ j → j < 52 + 9 * k → (!(Y.contains (j, f))) = true := fun j f h1 h2 => by
    have : (j, f) ∉ Y := fun z => by have := List.all_eq_true.mp hY (j, f) z; simp at this; omega
    simpa using this
  have cE : cEn h (43 + 9 * k) o → cEn h' (43 + 9 * k) o := fun A => cEn_fc A F l (by omega) (nC _ (by omega) (by omega)) (List.all_eq_true.mpr (fun f _ => nY _ _ (by omega) (by omega)))
  have cH : ∀ HL, cHl h (47 + 9 * k) HL → cHl h' (47 + 9 * k) HL := fun HL A => cHl_fc A F l (by omega) (List.all_eq_true.mpr (fun f hf => nC _ (by omega) (by simp at hf; omega))) (List.all_eq_true.mpr (fun f _ => nY _ _ (by omega) (by omega)))
  have g4 : ∀ f, gI h' (43 + 9 * k) f = gI h (43 + 9 * k) f := fun f => F.gi l (by omega) (ni_of (nY _ _ (by omega) (by omega)))
  cases q with
  | none =>
    obtain ⟨a1, a2, HL, a3⟩ := A
    exact ⟨by rw [g4]; exact a1, cE a2, HL, cH HL a3⟩
  | some e =>
    obtain ⟨a1, a2, a3, a4⟩ := A
    exact ⟨by rw [g4]; exact a1, cE a2, by rw [show 43 + 9 * k + 4 = 47 + 9 * k by omega] at a3 ⊢; exact cH _ a3, by rw [g4]; exact a4⟩
theorem cBo_E {k : Nat} {q : Option zEs} (A : cBo h V k o q) : cEn h (43 + 9 * k) o ∧ ∃ HL, cHl h (43 + 9 * k + 4) HL := by
  cases q with
  | none => exact ⟨A.2.1, by rw [show 43 + 9 * k + 4 = 47 + 9 * k by omega]; exact A.2.2⟩
  | some e => exact ⟨A.2.1, _, A.2.2.1⟩
def dImage (w : zSt) (x : Int32) : Int32 × zSt := match ix x 3 with
  | some k => (nI (wH w).length, (w.1, ((wE w, fun i => if i = k then some (wE w) else wX w i), w.2.2)))
  | none => (-1, w)
theorem r11_image (A : cR h w P c) (H : ∀ h', fk h h' → cR h' (dImage w x).2 P (c + 1) → Q (some (.int (dImage w x).1)) h') : zC mX11_image [.ref 0, .int x] h Q := by
  have A0 := A
  obtain ⟨O, t, t2, o, bo, sc, tc, nc, A, B, Z⟩ := A
  have OB := A.1.2.2.1
  have Bx := A.2.1.2.2.2.2.2.2.1
  have E := A.2.2.1.1
  have l := A.1.1
  refine nX11_image _ _ _ _ (bX11_image_0 _ _ _ _ ⟨OB.1, s11_boxAt Bx (fun k ex hk => ⟨some _, rfl, fun q => (by cases q), fun _ => ⟨_, rfl, OB.1, _, OB.2.2.2.1.1, ?_⟩⟩) (fun q => ⟨none, rfl, fun _ => ?_, fun y => absurd rfl y⟩)⟩)
  · obtain ⟨BE, HA, BH⟩ := cBo_E (A.2.2.1.2 k hk)
    refine ⟨BE.1, s1_become (a := 43 + 9 * k) (d := 33) BE E.1 BH E.2.1 (by omega) O.2.2.1.2.2.2.1 (fun v b hv hb => by have := (B.2.2.1.1 v hv).1.1; rw [hb] at this; exact this) (fun h9 F9 E9 H9 g3 => ⟨rfl, E9.1, fun h11 e11 => ?_⟩)⟩
    have F11 : fr [] [(43 + 9 * k, 4)] h9 h11 := by rw [e11]; exact fr_pF (by simp) E9.1 rfl rfl
    have FF : fr [43 + 9 * k + 3, 43 + 9 * k + 5, 43 + 9 * k + 6, 43 + 9 * k + 7, 43 + 9 * k + 8] [(43 + 9 * k, 3), (43 + 9 * k + 4, 4), (43 + 9 * k, 4)] h h11 := (F9.mo (fun _ z => z) (fun q hq => by simp at hq ⊢; rcases hq with rfl | rfl <;> simp)).tr (F11.mo (by simp) (by simp))
    have ed : dImage w x = (nI (wH w).length, (w.1, ((wE w, fun i => if i = k then some (wE w) else wX w i), w.2.2))) := by unfold dImage; rw [ex, ix_s hk (by decide)]
    rw [ed] at H
    have g4 : gI h11 (43 + 9 * k) 4 = 1 := by rw [e11]; exact gI_pF_s E9.1 (by decide)
    have E11 : cEb h11 (wV w) (43 + 9 * k) o (wE w) := ⟨E9.fr F11 (by simp) (by simp) (by simp) (by simp), by
      obtain ⟨q1, q2, q3, q4, q5⟩ := H9
      exact ⟨F11.o q1, ⟨by rw [F11.gr (by simp)]; exact q2.1, by rw [F11.gr (by simp)]; exact q2.2.1, by rw [F11.gr (by simp)]; exact q2.2.2.1, by rw [F11.gr (by simp)]; exact q2.2.2.2⟩, fun j hj => ⟨F11.ik (q3 j hj).1, by rw [F11.n]; exact (q3 j hj).2⟩, by rw [F11.gi (by simp)]; exact q4, fun n q z => by rw [F11.i (k := 43 + 9 * k + 4 + 1) (by simp), F11.i (k := 43 + 9 * k + 4 + 1 + 1) (by simp), F11.i (k := 43 + 9 * k + 4 + 1 + 2) (by simp), F11.i (k := 43 + 9 * k + 4 + 1 + 3) (by simp)]; exact q5 n q z⟩, by rw [F11.gi (by simp), g3]; exact E.2.2⟩
    have k3 : k = 0 ∨ k = 1 ∨ k = 2 := by omega
    have FX : fc [43 + 9 * k + 3, 43 + 9 * k + 5, 43 + 9 * k + 6, 43 + 9 * k + 7, 43 + 9 * k + 8] [] [(43 + 9 * k, 3), (43 + 9 * k + 4, 4), (43 + 9 * k, 4)] h h11 := fc_z (FF.z (Nat.le_refl _)) (fun _ z => Or.inl z)
    have B' := cVr_fc A B FX (by rcases k3 with rfl | rfl | rfl <;> decide) (by rcases k3 with rfl | rfl | rfl <;> decide)
    have fkk : fk h h11 := fk_fc FX (by rcases k3 with rfl | rfl | rfl <;> decide) (by rcases k3 with rfl | rfl | rfl <;> decide)
    obtain ⟨⟨-, ht, a1, a2, a3⟩, ⟨b1, b2, b3, b4, b5, b6, b7, b8, b9⟩, ⟨c1, c2⟩, d1, d2, d3⟩ := A
    have A' : cFx h11 (w.1, ((wE w, fun i => if i = k then some (wE w) else wX w i), w.2.2)) t t2 o (fun i => if i = k then o else bo i) := by
      refine ⟨⟨by have := FF.1.1; omega, ht, cOb_fc a1 FX ?_, cTn_fc a2 ht FX l ?_ ?_, cOs_fc a3 FX⟩, ⟨cSp_fc b1 FX l ?_, cSp_fc b2 FX l ?_, cOl_fc b3 FX l ?_, cSl_fc b4 FX l ?_, cTl_fc b5 FX l ?_, FX.o b6, cBxR_fc b7 FX l ?_ ?_, cRr_fc b8 FX l ?_ ?_, cTp_fc b9 FX l ?_ ?_⟩, ⟨cEb_fc c1 FX l (by decide) ?_ ?_, fun i hi => ?_⟩, ?_, ?_, ?_⟩
      case refine_17 =>
        show cBo h11 (wV w) i (if i = k then o else bo i) (if i = k then some (wE w) else wX w i)
        by_cases y : i = k
        · rw [if_pos y, if_pos y, y]; exact ⟨g4, E11⟩
        · rw [if_neg y, if_neg y]
          have i3 : i = 0 ∨ i = 1 ∨ i = 2 := by omega
          refine cBo_fc2 (c2 i hi) FX l hi ?_ ?_
          · rcases k3 with rfl | rfl | rfl <;> rcases i3 with rfl | rfl | rfl <;> first | (exact absurd rfl y) | decide
          · rcases k3 with rfl | rfl | rfl <;> rcases i3 with rfl | rfl | rfl <;> first | (exact absurd rfl y) | decide
      case refine_18 => rw [FX.gi l (by decide) (by rcases k3 with rfl | rfl | rfl <;> decide)]; exact d1
      case refine_19 => rw [FX.gi l (by decide) (by rcases k3 with rfl | rfl | rfl <;> decide)]; exact d2
      case refine_20 => rw [FX.gi l (by decide) (by rcases k3 with rfl | rfl | rfl <;> decide)]; exact d3
      all_goals (rcases k3 with rfl | rfl | rfl <;> decide)
    have OB11 := A'.1.2.2.1
    have E33 := A'.2.2.1.1
    refine ⟨OB11.1, _, OB11.2.2.2.1.1, E33.1.1, _, E33.1.2.2.2.2.1, E33.2.1.1, ?_⟩
    rw [show gI h11 (33 + 4) 4 = nI (wH w).length from E33.2.1.2.2.2.1]
    refine H h11 fkk ⟨⟨O.1, O.2.1, O.2.2.1, fun i e he => ?_, O.2.2.2.2⟩, t, t2, o, (fun i => if i = k then o else bo i), sc, tc, nc, A', ⟨B'.1, B'.2.1, ⟨B'.2.2.1.1, fun i e hi he => ?_⟩, B'.2.2.2.1, B'.2.2.2.2⟩, cSz_fc Z FF⟩
    · have he' : (if i = k then some (wE w) else wX w i) = some e := he
      by_cases y : i = k
      · rw [if_pos y] at he'; cases he'; exact O.2.2.1
      · rw [if_neg y] at he'; exact O.2.2.2.1 i e he'
    · have he' : (if i = k then some (wE w) else wX w i) = some e := he
      show cBs h11 [sc, tc, nc] (if i = k then o else bo i) e
      by_cases y : i = k
      · rw [if_pos y] at he' ⊢; cases he'; exact B'.2.2.1.1
      · rw [if_neg y] at he' ⊢; exact B'.2.2.1.2 i e hi he'
  · have e : dImage w x = (-1, w) := by unfold dImage; rw [ix_3 q]
    rw [e] at H; exact H h fk_rf (cR_up A0)
end

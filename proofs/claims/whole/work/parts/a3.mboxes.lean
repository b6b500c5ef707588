/-! ===== the reference's image, back ===== -/
section
variable {h h' h1 h2 : zH} {Q : Option Value → zH → Prop} {b N V j : Nat} {w : zSt} {x y z : Int32} {e : zEs}
/-- a box stays where its rows stay -/
theorem mBx_ro {q : Option zEs} (B : mBx h V N j q) (a120 : aI h' 120 j = aI h 120 j) (a121 : ∀ v, v < 8 → aI h' 121 (8 * j + v) = aI h 121 (8 * j + v)) (a122 : ∀ k, k < 4 → ∀ i, i < 20 → aI h' (122 + k) (20 * j + i) = aI h (122 + k) (20 * j + i)) (hV : V ≤ 8) (sl : ∀ v, v < 8 → slE h h' (8 * (2 + j) + v)) : mBx h' V N j q := by
  cases q with
  | none => show aI h' 120 j = -1; rw [a120]; exact B
  | some e =>
    obtain ⟨p1, p2, p3, p4, p5⟩ := B
    refine ⟨by rw [a120]; exact p1, fun v hv => by rw [a121 v (by omega)]; exact p2 v hv, fun n q z => ?_, p4, fun v hv => (p5 v hv).sl (sl v hv)⟩
    obtain ⟨hl, -⟩ := List.getElem?_eq_some_iff.mp z
    have l20 : e.2.2.length ≤ 20 := p4.1
    have z' := p3 n q z
    have hl' : n < e.2.2.length := hl
    rw [show aI h' 122 (20 * j + n) = _ from a122 0 (by decide) n (by omega), show aI h' (122 + 1) (20 * j + n) = _ from a122 1 (by decide) n (by omega), show aI h' (122 + 2) (20 * j + n) = _ from a122 2 (by decide) n (by omega), show aI h' (122 + 3) (20 * j + n) = _ from a122 3 (by decide) n (by omega)]
    exact z'
theorem r12_image (A : mR h w) (H : ∀ h', mk2 h h' → mR h' (dImage w x).2 → Q (some (.int (dImage w x).1)) h') : zC mX12_image [.ref 84, .int x] h Q := by
  obtain ⟨O, b, A⟩ := A
  have b2 := A.1.1.b2
  have V8 := stO_V O
  refine s12_image A.1.1 A.2.2.2.1.1 O.2.2.1.2.2.2 A.2.2.2.1.2 A.2.2.1 (fun j h' ex hj F BX sl r120 r121 r122 => ?_) (fun q => ?_)
  · have ed : dImage w x = (nI (wH w).length, (w.1, ((wE w, fun i => if i = j then some (wE w) else wX w i), w.2.2))) := by unfold dImage; rw [ex, ix_s hj (by decide)]
    rw [ed] at H
    obtain ⟨⟨a1, a2, a3, a4⟩, ⟨b1, b2'⟩, c, ⟨d1, d2⟩, e, f1, f2, f3⟩ := A
    refine H h' (mk2_fr F (by decide) (by decide)) ⟨⟨O.1, O.2.1, O.2.2.1, fun i e he => ?_, O.2.2.2.2⟩, b, ⟨a1.fr F (by decide), a2.fr F (by decide), ⟨by rw [F.gi (by simp)]; exact a3.1, a3.2.1, fun i hi => by rw [F.i (by decide)]; exact a3.2.2 i hi⟩, a4.fr F (by decide) (by simp)⟩, ⟨by rw [F.gi (by simp)]; exact b1, by rw [F.i (by decide)]; exact b2'⟩, fun v hv => (c v hv).sl (sl _ (by omega)), ⟨d1.fr F (by decide) (by simp), d2.fr F (by decide)⟩, fun i hi => ?_, by rw [F.gi (by simp)]; exact f1, by rw [F.gi (by simp)]; exact f2, by rw [F.gi (by simp)]; exact f3⟩
    · have he' : (if i = j then some (wE w) else wX w i) = some e := he
      by_cases y : i = j
      · rw [if_pos y] at he'; cases he'; exact O.2.2.1
      · rw [if_neg y] at he'; exact O.2.2.2.1 i e he'
    · show mBx h' (wV w) (wN w) i (if i = j then some (wE w) else wX w i)
      by_cases y : i = j
      · rw [if_pos y, y]; exact BX
      · rw [if_neg y]
        exact mBx_ro (e i hi) (r120 i y) (fun v hv => r121 _ (by omega)) (fun k hk n hn => r122 k hk _ (by omega)) V8 (fun v hv => sl _ (by omega))
  · have ed : dImage w x = (-1, w) := by unfold dImage; rw [ix_3 q]
    rw [ed] at H; exact H h mk2_rf ⟨O, b, A⟩
/-- a box's earnest -/
def bxE (w : zSt) (j : Nat) : zEs := match wX w j with
  | none => ((fun _ => bl0), ((fun _ => 0), []))
  | some e => e
def bxQ (w : zSt) (j : Nat) : Option ((Nat → Nat) × List zHd) := match wX w j with
  | none => none
  | some e => some (e.2.1, e.2.2)
theorem r12_back (A : mR h w) (H : ∀ h', mk2 h h' → mR h' (dBack w x).2 → Q (some (.int (dBack w x).1)) h') : zC mX12_back [.ref 84, .int x] h Q := by
  obtain ⟨O, b, A⟩ := A
  have b2 := A.1.1.b2
  have V8 := stO_V O
  refine s12_back (bx := bxQ w) (bn := fun j => eN (bxE w j)) (bd := fun j => eD (bxE w j)) (bu := fun j => eU (bxE w j)) A.1.1 A.2.1.1 (fun j hj => ?_) (fun j hj v hv => ?_) (fun j q h' ex hj bq F m1 m2 mb sl S' => ?_) (fun q => ?_)
  · have B := A.2.2.2.2.1 j hj
    show mBX h (wV w) (wN w) j (bxQ w j) (eN (bxE w j)) (eD (bxE w j)) (eU (bxE w j))
    unfold bxQ bxE
    cases z : wX w j with
    | none => rw [z] at B; exact B
    | some e => rw [z] at B; exact B
  · show okC (wV w) (wN w) v (eN (bxE w j) v) (eD (bxE w j) v)
    unfold bxE
    cases z : wX w j with
    | none => exact ⟨Nat.zero_le _, fun _ => 0, rfl, fun i hi => absurd hi (Nat.not_lt_zero i)⟩
    | some e => exact (O.2.2.2.1 j e z).1 v hv
  · cases z : wX w j with
    | none => unfold bxQ at bq; rw [z] at bq; cases bq
    | some e =>
      unfold bxQ at bq
      rw [z] at bq
      cases bq
      have eb : bxE w j = e := by unfold bxE; rw [z]
      rw [eb] at mb S'
      have ed : dBack w x = (nI e.2.2.length, setE w e) := by
        unfold dBack
        rw [ex, ix_s hj (by decide)]
        simp only []
        rw [z]
      rw [ed] at H
      obtain ⟨⟨a1, a2, a3, a4⟩, ⟨b1, b2'⟩, c, ⟨d1, d2⟩, bx, f1, f2, f3⟩ := A
      exact H h' (mk2_fr F (by decide) (by decide)) ⟨⟨O.1, O.2.1, O.2.2.2.1 j e z, O.2.2.2.1, O.2.2.2.2⟩, b, ⟨a1.fr F (by decide), a2.fr F (by decide), ⟨by rw [F.gi (by decide)]; exact a3.1, a3.2.1, fun i hi => by rw [F.i (by decide)]; exact a3.2.2 i hi⟩, S'⟩, ⟨by rw [F.gi (by decide)]; exact b1, by rw [F.i (by decide)]; exact b2'⟩, mb, ⟨m1, m2⟩, fun i hi => mBx_ro (bx i hi) (by rw [F.i (by decide)]) (fun v hv => by rw [F.i (by decide)]) (fun k hk n hn => by rw [F.i (by simp [XKR]; omega)]) V8 (fun v hv => sl _ (by omega)), by rw [F.gi (by decide)]; exact f1, by rw [F.gi (by decide)]; exact f2, by rw [F.gi (by decide)]; exact f3⟩
  · have ed : dBack w x = (-1, w) := by
      unfold dBack
      rcases q with q | ⟨j, rfl, hj, hq⟩
      · rw [ix_3 q]
      · rw [ix_s hj (by decide)]
        simp only []
        unfold bxQ at hq
        cases z : wX w j with
        | none => rfl
        | some e => rw [z] at hq; cases hq
    rw [ed] at H; exact H h mk2_rf ⟨O, b, A⟩
end

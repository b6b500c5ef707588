/-! ===== the reference's reword, roll ===== -/
section
variable {h h' h1 h2 : zH} {Q : Option Value → zH → Prop} {b N V j : Nat} {w : zSt} {x y z : Int32} {e : zEs}
theorem stO_rw {v : Nat} {s : zPs} {q : Nat × Int32} (O : stO w) (hv : v < wV w) (ok : okC (wV w) (wN w) v s.2.2.2.1.1 s.2.2.2.1.2) (us : s.2.2.2.2.2 ≤ 80 - otU (eU (wE w)) v) : stO (setR w (rwE w v s) q) := by
  have V8 := stO_V O
  refine ⟨O.1, O.2.1, ⟨fun i hi => ?_, ⟨?_, fun i hi => ?_⟩, O.2.2.1.2.2.1, O.2.2.1.2.2.2⟩, O.2.2.2.1, O.2.2.2.2⟩
  · show okC _ _ i ((rwE w v s).1 i).1 ((rwE w v s).1 i).2.1
    by_cases y : i = v
    · rw [y, rwE_s]; exact ok
    · rw [rwE_n y]; exact O.2.2.1.1 i hi
  · have e1 : sm (eU (rwE w v s)) 0 8 = sm (va_up (eU (wE w)) v s.2.2.2.2.2) 0 8 := sm_congr 8 0 (fun i _ _ => by
      show ((rwE w v s).1 i).2.2 = _
      by_cases y : i = v
      · rw [y, rwE_s, up_s]
      · rw [rwE_n y, up_n y])
    show sm (eU (rwE w v s)) 0 8 ≤ 80
    have e2 := otU_up (cu := eU (wE w)) (x := s.2.2.2.2.2) (show v < 8 by omega)
    have e3 := otU_le (cu := eU (wE w)) (show v < 8 by omega)
    have e4 : sm (eU (wE w)) 0 8 ≤ 80 := O.2.2.1.2.1.1
    omega
  · show (rwE w v s).1 i = bl0
    rw [rwE_n (fun y => by have : wV w ≤ i := hi; omega)]; exact O.2.2.1.2.1.2 i hi
theorem r12_reword (fu : ∀ v, x = nI v → v < wV w → fuW w v) (A : mR h w) (H : ∀ h', mk2 h h' → mR h' (dReword w x).2 → Q (some (.int (dReword w x).1)) h') : zC mX12_reword [.ref 84, .int x] h Q := by
  obtain ⟨O, b, A⟩ := A
  have b2 := A.1.1.b2
  have V8 := stO_V O
  refine s12_reword (cn := eN (wE w)) (cd := eD (wE w)) (cu := eU (wE w)) A.1.1 A.1.2.2.1 A.1.2.1 O.1 rfl rfl A.2.2.1 (fun v hv => O.2.2.1.1 v hv) O.2.2.1.2.1.1 A.2.1.1 fu (fun q => ?_) (fun v s h' ex hv es F sl B ok us S' g2 g4 g5 => ?_) (fun v e h' ex hv es F sl rw_ r43 g2 L => ?_)
  · have e : dReword w x = (-2, w) := by unfold dReword; rw [ix_n (by omega) q]
    rw [e] at H
    exact H h mk2_rf ⟨O, b, A⟩
  · have e : dReword w x = (nI (sm (va_up (eU (wE w)) v s.2.2.2.2.2) 0 8), setR w (rwE w v s) (0, -1)) := by
      unfold dReword; rw [ex, ix_s hv (by omega)]; simp only []
      rw [show rdW w v = .inr s from es]
    rw [e] at H
    obtain ⟨⟨a1, a2, a3, a4⟩, ⟨b1, b2'⟩, c, ⟨d1, d2⟩, bx, f1, f2, f3⟩ := A
    have en1 : va_up (eN (wE w)) v s.2.2.2.1.1 = eN (rwE w v s) := by
      funext i
      show _ = ((rwE w v s).1 i).1
      by_cases y : i = v
      · rw [y, rwE_s, up_s]
      · rw [rwE_n y, up_n y]
    have ed1 : va_up (eD (wE w)) v s.2.2.2.1.2 = eD (rwE w v s) := by
      funext i
      show _ = ((rwE w v s).1 i).2.1
      by_cases y : i = v
      · rw [y, rwE_s, up_s]
      · rw [rwE_n y, up_n y]
    rw [en1, ed1] at S'
    refine H h' (mk2_fr F (by decide) (by decide)) ⟨stO_rw O hv ok us, b, ⟨a1.fr F (by decide), a2.fr F (by decide), ⟨g2, Nat.zero_le _, fun i hi => absurd hi (Nat.not_lt_zero i)⟩, S'⟩, ⟨by rw [F.gi (by decide)]; exact b1, by rw [F.i (by decide)]; exact b2'⟩, fun i hi => ?_, ⟨d1.fr F (by decide) (by decide), d2.fr F (by decide)⟩, fun i hi => mBx_ro (bx i hi) (by rw [F.i (by decide)]) (fun v hv => by rw [F.i (by decide)]) (fun k hk n hn => by rw [F.i (by simp; omega)]) V8 (fun v' hv' => sl _ (by omega) (by omega)), by rw [F.gi (by decide)]; exact f1, g4, g5⟩
    show mBl h' (8 * b + i) ((rwE w v s).1 i).1 ((rwE w v s).1 i).2.1 ((rwE w v s).1 i).2.2
    by_cases y : i = v
    · rw [y, rwE_s]; exact B
    · rw [rwE_n y]; exact (c i hi).sl (sl _ (by omega) (by omega))
  · have ed : dReword w x = (-1, setR w (wE w) (e.1, nI e.2)) := by
      unfold dReword; rw [ex, ix_s hv (by omega)]; simp only []
      rw [show rdW w v = .inl e from es]
    rw [ed] at H
    obtain ⟨⟨a1, a2, a3, a4⟩, ⟨b1, b2'⟩, c, ⟨d1, d2⟩, bx, f1, f2, f3⟩ := A
    exact H h' (mk2_fr F (by decide) (by decide)) ⟨⟨O.1, O.2.1, O.2.2.1, O.2.2.2.1, O.2.2.2.2⟩, b, ⟨a1.fr F (by decide), a2.fr F (by decide), ⟨g2, Nat.zero_le _, fun i hi => absurd hi (Nat.not_lt_zero i)⟩, ⟨by rw [r43]; exact a4.1, fun r hr => by rw [rw_ 108 (by simp), rw_ 109 (by simp)]; exact a4.2 r hr⟩⟩, ⟨by rw [F.gi (by decide)]; exact b1, by rw [F.i (by decide)]; exact b2'⟩, fun i hi => (c i hi).sl (sl _ (by omega)), ⟨d1.fr F (by decide) (by decide), d2.fr F (by decide)⟩, fun i hi => mBx_ro (bx i hi) (by rw [F.i (by decide)]) (fun v hv => by rw [F.i (by decide)]) (fun k hk n hn => by rw [F.i (by simp; omega)]) V8 (fun v' hv' => sl _ (by omega)), by rw [F.gi (by decide)]; exact f1, L.1, L.2.1⟩
theorem r12_roll (fu : fuR w) (A : mR h w) (H : ∀ h', mk2 h h' → mR h' (dRoll w).2 → Q (some (.int (dRoll w).1)) h') : zC mX12_roll [.ref 84] h Q := by
  obtain ⟨O, b, A⟩ := A
  have b2 := A.1.1.b2
  have V8 := stO_V O
  refine s12_roll (d := 1601) A.1.1.1 A.1.2.2.1 A.1.1.2.1 b2 A.2.1.1 fu (fun q h' eq Oq F R' g26 g54 r120 r111 S' g2 g4 g5 => ?_) (fun e h' ee F bk L g2 g26 rs r43 r54 => ?_)
  · have ed : dRoll w = (nI q.1.1.1.2.2.1, nxR w q.1) := by
      unfold dRoll
      rw [show rdR w = .inr q from eq]
    rw [ed] at H
    have f1 := A.2.2.2.2.2.1
    have b1 := A.2.1.1
    exact H h' (mk2_fr F (by decide) (by decide)) ⟨stO_roll O Oq, 1 - b, ⟨R'.mT Oq (A.1.1.1.fr F (by decide)) g26, R'.1.2, ⟨g2, Nat.zero_le _, fun i hi => absurd hi (Nat.not_lt_zero i)⟩, S'⟩, ⟨by rw [F.gi (by decide)]; exact b1, R'.2.2.2.1⟩, fun i hi => R'.2.2.2.2 i hi, ⟨⟨g54, fun n q z => by cases n <;> cases z⟩, fun v hv => ⟨r111 v (Nat.lt_of_lt_of_le hv Oq.1.2.2.1), Nat.zero_le _⟩⟩, fun i hi => r120 i hi, by rw [F.gi (by decide)]; exact f1, g4, g5⟩
  · have ed : dRoll w = (-1, setR w (wE w) (e.1, nI e.2)) := by
      unfold dRoll
      rw [show rdR w = .inl e from ee]
    rw [ed] at H
    obtain ⟨⟨a1, a2, a3, a4⟩, ⟨b1, b2'⟩, c, ⟨d1, d2⟩, bx, f1, f2, f3⟩ := A
    have nb : b ≠ 1 - b := by omega
    obtain ⟨⟨k87, k88, k89, k90⟩, k91, k92, k93, k94⟩ := bk.1 b nb
    have M' : mLay h' := a1.1.fr F (by decide)
    have n3 := O.1.1.1
    have s4 := O.1.2.1.1
    obtain ⟨t0, t1, t2, t3, t4, t5, t6, t7, t8, t9⟩ := a1
    obtain ⟨y0, ⟨y1, y2⟩, ⟨y3, y4⟩, y5, y6⟩ := a2
    exact H h' (mk2_fr F (by decide) (by decide)) ⟨⟨O.1, O.2.1, O.2.2.1, O.2.2.2.1, O.2.2.2.2⟩, b, ⟨⟨M', g26, t2, by rw [k87]; exact t3, t4, by rw [k88]; exact t5, t6, by rw [k89]; exact t7, t8, fun v hv => by rw [(k94 v (Nat.lt_of_lt_of_le hv V8)).1, (k94 v (Nat.lt_of_lt_of_le hv V8)).2.1]; exact t9 v hv⟩, ⟨y0, ⟨by rw [k87]; exact y1, fun j hj => by rw [k91 j (Nat.lt_of_lt_of_le hj n3)]; exact y2 j hj⟩, ⟨by rw [k88]; exact y3, fun j hj => by rw [k92 j (Nat.lt_of_lt_of_le hj s4)]; exact y4 j hj⟩, by rw [k89]; exact y5, fun j hj => by rw [k93 j (Nat.lt_of_lt_of_le hj V8)]; exact y6 j hj⟩, ⟨g2, Nat.zero_le _, fun i hi => absurd hi (Nat.not_lt_zero i)⟩, ⟨by rw [r43]; exact a4.1, fun r hr => by rw [rs 108 (by simp), rs 109 (by simp)]; exact a4.2 r hr⟩⟩, ⟨by rw [F.gi (by decide)]; exact b1, by rw [k90]; exact b2'⟩, fun i hi => (c i hi).sl (bk.2 _ (by omega)), ⟨⟨by rw [r54]; exact d1.1, fun n q z => by rw [F.i (k := 116) (by decide), F.i (k := 117) (by decide), F.i (k := 118) (by decide), F.i (k := 119) (by decide)]; exact d1.2 n q z⟩, fun v hv => by rw [rs 111 (by simp)]; exact d2 v hv⟩, fun i hi => mBx_ro (bx i hi) (by rw [rs 120 (by simp)]) (fun v hv => by rw [F.i (by decide)]) (fun k hk n hn => by rw [F.i (by simp; omega)]) V8 (fun v' hv' => bk.2 _ (by omega)), by rw [F.gi (by decide)]; exact f1, L.1, L.2.1⟩
end

/-! ===== the reference's small changes ===== -/
section
variable {h h' h1 h2 : zH} {Q : Option Value → zH → Prop} {b N V j : Nat} {w : zSt} {x y z : Int32} {mm : Nat → Nat} {HL : List zHd}
theorem mRb_now {X : List Nat} {Y : List (Nat × Nat)} (A : mRb h w b) (F : fr X Y h h') (hX : X.all (fun k => [106, 111, 116, 117, 118, 119].contains k) = true) (hY : Y.all (fun k => [(84, 54)].contains k) = true) (m1 : mHL h' HL) (m2 : mH h' (wV w) (wN w) mm) : mRb h' (setN w mm HL) b := by
  have F1 : fr [106, 111, 116, 117, 118, 119] [(84, 54)] h h' := F.mo (fun k hk => List.contains_iff_mem.mp (List.all_eq_true.mp hX k hk)) (fun k hk => List.contains_iff_mem.mp (List.all_eq_true.mp hY k hk))
  obtain ⟨⟨a1, a2, a3, a4⟩, ⟨b1, b2⟩, c, ⟨d1, d2⟩, e, f1, f2, f3⟩ := A
  exact ⟨⟨a1.fr F1 (by decide), a2.fr F1 (by decide), ⟨by rw [F1.gi (by simp)]; exact a3.1, a3.2.1, fun i hi => by rw [F1.i (by simp)]; exact a3.2.2 i hi⟩, a4.fr F1 (by decide) (by simp)⟩, ⟨by rw [F1.gi (by simp)]; exact b1, by rw [F1.i (by simp)]; exact b2⟩, fun v hv => (c v hv).fr F1 (by decide), ⟨m1, m2⟩, fun j hj => mBx_fr (e j hj) F1 (by decide), by rw [F1.gi (by simp)]; exact f1, by rw [F1.gi (by simp)]; exact f2, by rw [F1.gi (by simp)]; exact f3⟩
theorem r12_mark (A : mR h w) (H : ∀ h', mk2 h h' → mR h' (dMark w x y).2 → Q (some (.int (dMark w x y).1)) h') : zC mX12_mark [.ref 84, .int x, .int y] h Q := by
  obtain ⟨O, b, A⟩ := A
  have V8 := stO_V O
  have N3 := stO_N O
  refine s12_mark A.1.1 A.2.2.2.1.2 (fun j m h' ex hj ey hm F M' => ?_) (fun q => ?_)
  · have e : dMark w x y = (1, setN w (ud (wM w) j m) (wH w)) := by unfold dMark; rw [ex, ey, ix_s hj (by omega), ix_s (Nat.lt_succ_of_le hm) (by omega)]
    rw [e] at H
    exact H h' (mk2_fr F (by decide) (by decide)) ⟨stO_now O (ud_le O.2.2.1.2.2.1 hm) O.2.2.1.2.2.2, b, mRb_now A F (by decide) (by decide) (A.2.2.2.1.1.fr F (by decide) (by simp)) M'⟩
  · have e : dMark w x y = (0, w) := by
      unfold dMark
      rcases q with q | q
      · rw [ix_n (by omega) q]
      · rw [ix_nx (n := wN w) (by omega) q]; cases ix x (wV w) <;> rfl
    rw [e] at H; exact H h mk2_rf ⟨O, b, A⟩
theorem r12_open (A : mR h w) (H : ∀ h', mk2 h h' → mR h' (dOpen w x).2 → Q (some (.int (dOpen w x).1)) h') : zC mX12_open [.ref 84, .int x] h Q := by
  obtain ⟨O, b, A⟩ := A
  have V8 := stO_V O
  refine s12_open A.1.1 A.1.2.2.2 (wf_C O) (wf_N O) A.2.2.2.1.2 (fun j h' ex hj F M' => ?_) (fun q => ?_)
  · have e : dOpen w x = (nI (wf w (wM w) j), setN w (ud (wM w) j (wf w (wM w) j)) (wH w)) := by unfold dOpen; rw [ex, ix_s hj (by omega)]
    rw [e] at H
    exact H h' (mk2_fr F (by decide) (by decide)) ⟨stO_now O (ud_le O.2.2.1.2.2.1 (wf_N O (wM w) O.2.2.1.2.2.1 j hj)) O.2.2.1.2.2.2, b, mRb_now A F (by decide) (by decide) (A.2.2.2.1.1.fr F (by decide) (by simp)) M'⟩
  · have e : dOpen w x = (-1, w) := by unfold dOpen; rw [ix_n (by omega) q]
    rw [e] at H; exact H h mk2_rf ⟨O, b, A⟩
theorem r12_hand (A : mR h w) (H : ∀ h', mk2 h h' → mR h' (dHand w x y).2 → Q (some (.int (dHand w x y).1)) h') : zC mX12_hand [.ref 84, .int x, .int y] h Q := by
  obtain ⟨O, b, A⟩ := A
  have V8 := stO_V O
  have N3 := stO_N O
  refine s12_hand A.1.1 A.2.2.2.1.1 O.2.2.1.2.2.2 A.2.2.2.2.2.1 (fun j m h' ex hj ey hm l20 F M' => ?_) (fun q => ?_)
  · have e : dHand w x y = (nI (wH w).length, setN w (wM w) (wH w ++ [(j, m, wT w, none)])) := by
      unfold dHand; rw [ex, ey, ix_s hj (by omega), ix_s (Nat.lt_succ_of_le hm) (by omega)]; exact if_pos l20
    rw [e] at H
    have hh : hdO (wV w) (wN w) (wH w ++ [(j, m, wT w, none)]) := ⟨by rw [List.length_append]; exact l20, fun q hq => by
      rcases List.mem_append.mp hq with z | z
      · exact O.2.2.1.2.2.2.2 q z
      · simp only [List.mem_cons, List.not_mem_nil, or_false] at z
        subst z
        exact ⟨hj, hm, O.2.2.2.2, fun u hu => by cases hu⟩⟩
    exact H h' (mk2_fr F (by decide) (by decide)) ⟨stO_now O O.2.2.1.2.2.1 hh, b, mRb_now A F (by decide) (by decide) M' (A.2.2.2.1.2.fr F (by simp))⟩
  · have e : dHand w x y = (-1, w) := by
      unfold dHand
      rcases q with q | q | q
      · rw [ix_n (by omega) q]
      · rw [ix_nx (n := wN w) (by omega) q]; cases ix x (wV w) <;> rfl
      · cases ix x (wV w) with
        | none => rfl
        | some i => cases ix y (wN w + 1) with
          | none => rfl
          | some m => exact if_neg (show ¬ (wH w).length < 20 from fun z => absurd q (Nat.ne_of_lt z))
    rw [e] at H; exact H h mk2_rf ⟨O, b, A⟩
theorem r12_untell (A : mR h w) (H : ∀ h', mk2 h h' → mR h' (dUntell w x).2 → Q (some (.int (dUntell w x).1)) h') : zC mX12_untell [.ref 84, .int x] h Q := by
  obtain ⟨O, b, A⟩ := A
  have Hh := O.2.2.1.2.2.2
  have l20 : (wH w).length ≤ 20 := Hh.1
  refine s12_untell A.1.1 A.2.2.2.1.1 Hh A.2.2.2.2.2.1 (fun n q0 h' ex hq hn F M' => ?_) (fun q => ?_)
  · obtain ⟨hl, -⟩ := List.getElem?_eq_some_iff.mp hq
    have e : dUntell w x = (1, setN w (wM w) ((wH w).set n (q0.1, q0.2.1, q0.2.2.1, some (wT w)))) := by
      unfold dUntell; rw [ex, ix_s hl (by omega)]; simp only []; rw [hq]; simp only []; rw [if_pos hn]
    rw [e] at H
    have q0m := Hh.2 q0 (List.mem_of_getElem? hq)
    have hh : hdO (wV w) (wN w) ((wH w).set n (q0.1, q0.2.1, q0.2.2.1, some (wT w))) := ⟨by rw [List.length_set]; exact l20, fun q hq' => by
      rcases List.mem_or_eq_of_mem_set hq' with z | z
      · exact Hh.2 q z
      · subst z
        exact ⟨q0m.1, q0m.2.1, q0m.2.2.1, fun u hu => by cases hu; exact O.2.2.2.2⟩⟩
    exact H h' (mk2_fr F (by decide) (by decide)) ⟨stO_now O O.2.2.1.2.2.1 hh, b, mRb_now A F (by decide) (by decide) M' (A.2.2.2.1.2.fr F (by simp))⟩
  · have e : dUntell w x = (0, w) := by
      unfold dUntell
      rcases q with q | ⟨n, q0, rfl, hq, hn⟩
      · rw [ix_n (by omega) q]
      · obtain ⟨hl, -⟩ := List.getElem?_eq_some_iff.mp hq
        rw [ix_s hl (by omega)]; simp only []; rw [hq]; simp only []; rw [if_neg hn]
    rw [e] at H; exact H h mk2_rf ⟨O, b, A⟩
theorem mRb_tp {X : List Nat} {Y : List (Nat × Nat)} {p : Nat × (Nat → Nat)} (A : mRb h w b) (F : fr X Y h h') (hX : X.all (fun k => [85].contains k) = true) (hY : Y.all (fun k => [(84, 2)].contains k) = true) (T : mTp h' p.1 p.2) : mRb h' (setP w p) b := by
  have F1 : fr [85] [(84, 2)] h h' := F.mo (fun k hk => List.contains_iff_mem.mp (List.all_eq_true.mp hX k hk)) (fun k hk => List.contains_iff_mem.mp (List.all_eq_true.mp hY k hk))
  obtain ⟨⟨a1, a2, a3, a4⟩, ⟨b1, b2⟩, c, ⟨d1, d2⟩, e, f1, f2, f3⟩ := A
  exact ⟨⟨a1.fr F1 (by decide), a2.fr F1 (by decide), T, a4.fr F1 (by decide) (by simp)⟩, ⟨by rw [F1.gi (by simp)]; exact b1, by rw [F1.i (by simp)]; exact b2⟩, fun v hv => (c v hv).fr F1 (by decide), ⟨d1.fr F1 (by decide) (by simp), d2.fr F1 (by simp)⟩, fun j hj => mBx_fr (e j hj) F1 (by decide), by rw [F1.gi (by simp)]; exact f1, by rw [F1.gi (by simp)]; exact f2, by rw [F1.gi (by simp)]; exact f3⟩
theorem r12_feed {p q r s u : Int32} (A : mR h w) (H : ∀ h', mk2 h h' → mR h' (dFeed w p q r s u).2 → Q (some (.int (dFeed w p q r s u).1)) h') : zC mX12_feed [.ref 84, .int p, .int q, .int r, .int s, .int u] h Q := by
  obtain ⟨O, b, A⟩ := A
  refine s12_feed A.1.1.1 A.1.2.2.1 (fun z => ?_) (fun h' z F T' => ?_)
  · have ed : dFeed w p q r s u = (-1, w) := if_pos z
    rw [ed] at H; exact H h mk2_rf ⟨O, b, A⟩
  · have ed : dFeed w p q r s u = (nI ((wP w).1 + 20), setP w ((wP w).1 + 20, ad20 (wP w).1 (wP w).2 p q r s u)) := if_neg (Nat.not_lt.mpr z)
    rw [ed] at H
    exact H h' (mk2_fr F (by decide) (by decide)) ⟨O, b, mRb_tp (p := ((wP w).1 + 20, ad20 (wP w).1 (wP w).2 p q r s u)) A F (by decide) (by decide) T'⟩
theorem r12_end (A : mR h w) (H : ∀ h', mk2 h h' → mR h' (dEnd w x).2 → Q (some (.int (dEnd w x).1)) h') : zC mX12_end [.ref 84, .int x] h Q := by
  obtain ⟨O, b, A⟩ := A
  have n16 := A.1.2.2.1.2.1
  refine s12_endT A.1.1.1 A.1.2.2.1 (fun k h' ex hk F T' => ?_) (fun q => ?_)
  · have e : dEnd w x = (nI k, setP w (k, (wP w).2)) := by unfold dEnd; rw [ex, ix_s (Nat.lt_succ_of_le hk) (by omega)]
    rw [e] at H
    exact H h' (mk2_fr F (by decide) (by decide)) ⟨O, b, mRb_tp (p := (k, (wP w).2)) A F (by decide) (by decide) T'⟩
  · have e : dEnd w x = (-1, w) := by
      unfold dEnd
      have : ix x ((wP w).1 + 1) = none := by
        unfold ix
        split
        · rfl
        · rename_i y
          obtain ⟨j, hj, rfl⟩ := nI_of y
          rw [nI_clamp hj, if_neg (fun z => q j (Nat.le_of_lt_succ z) rfl)]
      rw [this]
    rw [e] at H; exact H h mk2_rf ⟨O, b, A⟩
theorem r12_later (A : mR h w) (H : ∀ h', mk2 h h' → mR h' (dLater w x).2 → Q (some (.int (dLater w x).1)) h') : zC mX12_later [.ref 84, .int x] h Q := by
  obtain ⟨O, b, A⟩ := A
  have t5 : wT w ≤ 100000 := O.2.2.2.2
  refine s12_later A.1.1.1 A.2.2.2.2.2.1 t5 (fun d h' ex hd hy F g5 => ?_) (fun q => ?_)
  · have e : dLater w x = (nI (wT w + d), setT w (wT w + d)) := by unfold dLater; rw [ex, ix_s (n := 1001) (by omega) (by decide)]; exact if_pos hy
    rw [e] at H
    obtain ⟨⟨a1, a2, a3, a4⟩, ⟨b1, b2⟩, c, ⟨d1, d2⟩, e, f1, f2, f3⟩ := A
    exact H h' (mk2_fr F (by decide) (by decide)) ⟨⟨O.1, O.2.1, O.2.2.1, O.2.2.2.1, hy⟩, b, ⟨a1.fr F (by decide), a2.fr F (by decide), ⟨by rw [F.gi (by simp)]; exact a3.1, a3.2.1, fun i hi => by rw [F.i (by simp)]; exact a3.2.2 i hi⟩, a4.fr F (by decide) (by simp)⟩, ⟨by rw [F.gi (by simp)]; exact b1, by rw [F.i (by simp)]; exact b2⟩, fun v hv => (c v hv).fr F (by decide), ⟨d1.fr F (by decide) (by simp), d2.fr F (by simp)⟩, fun j hj => mBx_fr (e j hj) F (by decide), g5, by rw [F.gi (by simp)]; exact f2, by rw [F.gi (by simp)]; exact f3⟩
  · have e : dLater w x = (-1, w) := by
      unfold dLater
      rcases q with q | ⟨d, rfl, hd, hn⟩
      · rw [ix_nx (n := 1000) (by decide) q]
      · rw [ix_s (n := 1001) (by omega) (by decide)]; exact if_neg hn
    rw [e] at H; exact H h mk2_rf ⟨O, b, A⟩
end

/-! ===== how the reference holds the state; its questions ===== -/
section
variable {h h' h1 h2 : zH} {Q : Option Value → zH → Prop} {b N V j : Nat} {w : zSt} {x y z : Int32} {k : Int32}
/-- what a call of the reference leaves of the class's -/
def mk2 (h h' : zH) : Prop := ∃ X Y, fr X Y h h' ∧ (∀ k, k ∈ X → 84 ≤ k ∧ k < 126) ∧ (∀ q : Nat × Nat, q ∈ Y → q.1 = 84 ∧ q.2 < 64)
theorem mk2_fr {X : List Nat} {Y : List (Nat × Nat)} (F : fr X Y h h') (hX : X.all (fun k => decide (84 ≤ k ∧ k < 126)) = true) (hY : Y.all (fun q => decide (q.1 = 84 ∧ q.2 < 64)) = true) : mk2 h h' :=
  ⟨X, Y, F, fun k hk => of_decide_eq_true (List.all_eq_true.mp hX k hk), fun q hq => of_decide_eq_true (List.all_eq_true.mp hY q hq)⟩
theorem mk2_rf : mk2 h h := ⟨[], [], fr.rf, fun _ z => (by cases z), fun _ z => (by cases z)⟩
def mBx (h : zH) (V N j : Nat) : Option zEs → Prop
  | none => mBX h V N j none (fun _ => 0) (fun _ _ => (0, 0, 0)) (fun _ => 0)
  | some e => mBX h V N j (some (e.2.1, e.2.2)) (eN e) (eD e) (eU e)
theorem mBx_fr {X : List Nat} {Y : List (Nat × Nat)} {q : Option zEs} (B : mBx h V N j q) (F : fr X Y h h') (hX : [97, 98, 99, 100, 101, 120, 121, 122, 123, 124, 125].all (fun k => !(X.contains k)) = true) : mBx h' V N j q := by
  simp only [List.all_cons, List.all_nil, and_true, Bool.and_eq_true] at hX
  obtain ⟨x97, x98, x99, x100, x101, x120, x121, x122, x123, x124, x125⟩ := hX
  cases q with
  | none => show aI h' 120 j = -1; rw [F.i (ni_of x120)]; exact B
  | some e =>
    obtain ⟨p1, p2, p3, p4, p5⟩ := B
    refine ⟨by rw [F.i (ni_of x120)]; exact p1, fun v hv => by rw [F.i (ni_of x121)]; exact p2 v hv, fun n q z => ?_, p4, fun v hv => (p5 v hv).fr F ?_⟩
    · rw [F.i (ni_of x122), F.i (k := 122 + 1) (ni_of x123), F.i (k := 122 + 2) (ni_of x124), F.i (k := 122 + 3) (ni_of x125)]; exact p3 n q z
    · simp only [List.all_cons, List.all_nil, and_true, Bool.and_eq_true]; exact ⟨x97, x98, x99, x100, x101⟩
/-- the reference holds the state, in bank b -/
def mRb (h : zH) (w : zSt) (b : Nat) : Prop := (mT h b (wN w) (wK w).2.1.1 (wV w) (wS w) (wW w) ∧ mKz h b (wK w) ∧ mTp h (wP w).1 (wP w).2 ∧ mS h (wN w) (wV w) (wf w)) ∧ (gI h 84 40 = -1 ∧ aI h 90 b = nI (tkC w)) ∧ (∀ v, v < 8 → mBl h (8 * b + v) (eN (wE w) v) (eD (wE w) v) (eU (wE w) v)) ∧ (mHL h (wH w) ∧ mH h (wV w) (wN w) (wM w)) ∧ (∀ j, j < 3 → mBx h (wV w) (wN w) j (wX w j)) ∧ gI h 84 55 = nI (wT w) ∧ gI h 84 4 = nI (wF w).1 ∧ gI h 84 5 = (wF w).2
def mR (h : zH) (w : zSt) : Prop := stO w ∧ ∃ b, mRb h w b
theorem mRb_fr {X : List Nat} {Y : List (Nat × Nat)} (A : mRb h w b) (F : fr X Y h h') (hX : X.all (fun k => [106, 107, 110, 112, 113, 114, 115].contains k) = true) (hY : Y.all (fun k => [(84, 40)].contains k) = true) (g40 : gI h' 84 40 = -1) : mRb h' w b := by
  have F1 : fr [106, 107, 110, 112, 113, 114, 115] [(84, 40)] h h' := F.mo (fun k hk => List.contains_iff_mem.mp (List.all_eq_true.mp hX k hk)) (fun k hk => List.contains_iff_mem.mp (List.all_eq_true.mp hY k hk))
  obtain ⟨⟨a1, a2, a3, a4⟩, ⟨b1, b2⟩, c, ⟨d1, d2⟩, e, f1, f2, f3⟩ := A
  exact ⟨⟨a1.fr F1 (by decide), a2.fr F1 (by decide), ⟨by rw [F1.gi (by simp)]; exact a3.1, a3.2.1, fun i hi => by rw [F1.i (by simp)]; exact a3.2.2 i hi⟩, a4.fr F1 (by decide) (by simp)⟩, ⟨g40, by rw [F1.i (by simp)]; exact b2⟩, fun v hv => (c v hv).fr F1 (by decide), ⟨d1.fr F1 (by decide) (by simp), d2.fr F1 (by simp)⟩, fun j hj => mBx_fr (e j hj) F1 (by decide), by rw [F1.gi (by simp)]; exact f1, by rw [F1.gi (by simp)]; exact f2, by rw [F1.gi (by simp)]; exact f3⟩
theorem mR_q {X : List Nat} (O : stO w) (A : mRb h w b) (F : fr X [] h h') (hX : X.all (fun k => [106, 107, 110, 112, 113, 114, 115].contains k) = true) (hX2 : X.all (fun k => decide (84 ≤ k ∧ k < 126)) = true) : mk2 h h' ∧ mR h' w :=
  ⟨mk2_fr F hX2 (by decide), O, b, mRb_fr A F hX (by decide) (by rw [F.gi (by simp)]; exact A.2.1.1)⟩
theorem wL_get {i r : Nat} (hi : (wL w)[i]? = some r) : i < (wL w).length ∧ (wL w).getD i 0 = r := by
  obtain ⟨h1, h2⟩ := List.getElem?_eq_some_iff.mp hi
  exact ⟨h1, by rw [List.getD_eq_getElem?_getD, hi]; rfl⟩
theorem r12_countings (A : mR h w) (H : ∀ h', mk2 h h' → mR h' w → Q (some (.int (aCountings w))) h') : zC mX12_countings [.ref 84] h Q := by
  obtain ⟨O, b, A⟩ := A
  exact s12_countings A.1.1 A.1.2.2.2 (H h mk2_rf ⟨O, b, A⟩)
theorem r12_counting (A : mR h w) (H : ∀ h', mk2 h h' → mR h' w → Q (some (.int (aCounting w x y))) h') : zC mX12_counting [.ref 84, .int x, .int y] h Q := by
  obtain ⟨O, b, A⟩ := A
  have hl := wL_len O
  have V8 := stO_V O
  refine s12_counting A.1.1 A.1.2.2.2 (fun i j r h' ex hi _ ey hj F => ?_) (fun q => ?_)
  · obtain ⟨i1, i2⟩ := wL_get hi
    have fin := mR_q O A F (by decide) (by decide)
    have e : aCounting w x y = nI (dg (wN w + 1) (wV w) r j) := by unfold aCounting; rw [ex, ey, ix_s i1 (by omega), ix_s hj (by omega), ← i2]
    rw [← e]; exact H h' fin.1 fin.2
  · have e : aCounting w x y = -1 := by
      unfold aCounting
      rcases q with q | q
      · rw [ix_n (n := (wL w).length) (by omega) q]
      · rw [ix_n (n := wV w) (by omega) q]; cases ix x (wL w).length <;> rfl
    rw [← e]; exact H h mk2_rf ⟨O, b, A⟩
theorem r12_chosen (A : mR h w) (H : ∀ h', mk2 h h' → mR h' w → Q (some (.int (aChosen w x))) h') : zC mX12_chosen [.ref 84, .int x] h Q := by
  obtain ⟨O, b, A⟩ := A
  have hl := wL_len O
  refine s12_chosen A.1.1 A.1.2.2.2 (fun i r h' ex hi _ F => ?_) (fun q => ?_)
  · obtain ⟨i1, i2⟩ := wL_get hi
    have fin := mR_q O A F (by decide) (by decide)
    have e : aChosen w x = nI (chF (wV w) (wN w) (wS w) (wW w) (dg (wN w + 1) (wV w) r)) + (-1) := by unfold aChosen; rw [ex, ix_s i1 (by omega), ← i2]
    rw [← e]; exact H h' fin.1 fin.2
  · have e : aChosen w x = -2 := by unfold aChosen; rw [ix_n (n := (wL w).length) (by omega) q]
    rw [← e]; exact H h mk2_rf ⟨O, b, A⟩
theorem r12_wins (A : mR h w) (H : ∀ h', mk2 h h' → mR h' w → Q (some (.int (aWins w x))) h') : zC mX12_wins [.ref 84, .int x] h Q := by
  obtain ⟨O, b, A⟩ := A
  have N3 := stO_N O
  refine s12_wins A.1.1 A.1.2.2.2 (fun j h' ex hj F => ?_) (fun h' q F => ?_)
  · have fin := mR_q O A F (by decide) (by decide)
    have e : aWins w x = winA (wL w).length ((wL w).filter (cwB (wV w) (wN w) (wS w) (wW w) j)).length := by unfold aWins; rw [ex, ix_s hj (by omega)]
    rw [← e]; exact H h' fin.1 fin.2
  · have fin := mR_q O A F (by decide) (by decide)
    have e : aWins w x = -1 := by unfold aWins; rw [ix_n (by omega) q]
    rw [← e]; exact H h' fin.1 fin.2
theorem r12_telling (A : mR h w) (H : ∀ h', mk2 h h' → mR h' w → Q (some (.int (aTelling w))) h') : zC mX12_telling [.ref 84] h Q := by
  obtain ⟨O, b, A⟩ := A
  refine s12_telling A.1.1 A.1.2.2.2 (wf_C O) (fun s _ => ck_any) (fun h' F => ?_)
  have fin := mR_q O A F (by decide) (by decide)
  exact H h' fin.1 fin.2
theorem r12_says (A : mR h w) (H : ∀ h', mk2 h h' → mR h' w → Q (some (.int (aSays w x))) h') : zC mX12_says [.ref 84, .int x] h Q := by
  obtain ⟨O, b, A⟩ := A
  have V8 := stO_V O
  refine s12_says A.1.1 A.1.2.2.2 (wf_C O) (wf_N O) A.2.2.2.1.2 (fun j h' ex hj F => ?_) (fun q => ?_)
  · have fin := mR_q O A F (by decide) (by decide)
    have e : aSays w x = nI (wf w (wM w) j) := by unfold aSays; rw [ex, ix_s hj (by omega)]
    rw [← e]; exact H h' fin.1 fin.2
  · have e : aSays w x = -1 := by unfold aSays; rw [ix_n (by omega) q]
    rw [← e]; exact H h mk2_rf ⟨O, b, A⟩
theorem mRb_B (O : stO w) (A : mRb h w b) : mB h b (wV w) (wN w) (eN (wE w)) (eD (wE w)) := fun v hv => ⟨(A.2.2.1 v (by have := stO_V O; omega)).1, O.2.2.1.1 v hv⟩
theorem r12_looks (A : mR h w) (H : ∀ h', mk2 h h' → mR h' w → Q (some (.int (aLooks w x))) h') : zC mX12_looks [.ref 84, .int x] h Q := by
  obtain ⟨O, b, A⟩ := A
  have V8 := stO_V O
  refine s12_looks A.1.1 (mRb_B O A) (fun j ex hj => ?_) (fun q => ?_)
  · have e : aLooks w x = nI (lkN (wV w) (wS w) j (eN (wE w) j) (eD (wE w) j)) := by unfold aLooks; rw [ex, ix_s hj (by omega)]
    rw [← e]; exact H h mk2_rf ⟨O, b, A⟩
  · have e : aLooks w x = -1 := by unfold aLooks; rw [ix_n (by omega) q]
    rw [← e]; exact H h mk2_rf ⟨O, b, A⟩
theorem r12_part (A : mR h w) (H : ∀ h', mk2 h h' → mR h' w → Q (some (.int (aPart w x))) h') : zC mX12_part [.ref 84, .int x] h Q := by
  obtain ⟨O, b, A⟩ := A
  have V8 := stO_V O
  refine s12_part A.1.1 (mRb_B O A) (fun j ex hj => ?_) (fun q => ?_)
  · have e : aPart w x = nI (ptF (wKk w) (wV w) j) := by unfold aPart; rw [ex, ix_s hj (by omega)]
    have := H h mk2_rf ⟨O, b, A⟩
    rw [e] at this; exact this
  · have e : aPart w x = -1 := by unfold aPart; rw [ix_n (by omega) q]
    rw [← e]; exact H h mk2_rf ⟨O, b, A⟩
theorem r12_has (A : mR h w) (H : ∀ h', mk2 h h' → mR h' w → Q (some (.int (aHas w x))) h') : zC mX12_has [.ref 84, .int x] h Q := by
  obtain ⟨O, b, A⟩ := A
  have V8 := stO_V O
  refine s12_has A.1.1 A.2.2.2.1.2 (fun j ex hj => ?_) (fun q => ?_)
  · have e : aHas w x = nI (wM w j) := by unfold aHas; rw [ex, ix_s hj (by omega)]
    rw [← e]; exact H h mk2_rf ⟨O, b, A⟩
  · have e : aHas w x = -1 := by unfold aHas; rw [ix_n (by omega) q]
    rw [← e]; exact H h mk2_rf ⟨O, b, A⟩
theorem r12_judge (A : mR h w) (H : ∀ h', mk2 h h' → mR h' w → Q (some (.int (aJudge w))) h') : zC mX12_judge [.ref 84] h Q := by
  obtain ⟨O, b, A⟩ := A
  refine s12_judge A.1.1 A.1.2.2.2 (wf_C O) (wf_N O) A.2.2.2.1.2 (fun h' F => ?_)
  have fin := mR_q O A F (by decide) (by decide)
  exact H h' fin.1 fin.2
theorem r12_fault (A : mR h w) (H : ∀ h', mk2 h h' → mR h' w → Q (some (.int (aFault w x))) h') : zC mX12_fault [.ref 84, .int x] h Q := by
  obtain ⟨O, b, A⟩ := A
  exact s12_fault A.1.1.1 A.2.2.2.2.2.2.1 A.2.2.2.2.2.2.2 (H h mk2_rf ⟨O, b, A⟩)
theorem r12_shown (A : mR h w) (H : ∀ h', mk2 h h' → mR h' w → Q (some (.int (aShown x y z))) h') : zC mX12_shown [.ref 84, .int x, .int y, .int z] h Q := by
  obtain ⟨O, b, A⟩ := A
  have fin := H h mk2_rf ⟨O, b, A⟩
  refine s12_shown (fun n k hn ex hk ey hz => ?_) (fun q => ?_)
  · rw [ex, ey, aShown_s hn hk hz] at fin; exact fin
  · rw [aShown_n q] at fin; exact fin
theorem r12_about (A : mR h w) (H : ∀ h', mk2 h h' → mR h' w → Q (some (.int (aAbout w x))) h') : zC mX12_about [.ref 84, .int x] h Q := by
  obtain ⟨O, b, A⟩ := A
  exact s12_about (cu := eU (wE w)) A.1.1 A.2.1.2 A.2.2.2.1.1 A.2.2.2.2.2.1 A.1.2.2.1.1 (fun v hv => (A.2.2.1 v hv).2) (H h mk2_rf ⟨O, b, A⟩)
theorem wA_f {k : Int32} : (List.range' 0 ((wN w + 1) ^ wV w)).filter (lfB (wN w) (wV w) (wf w) k (wH w)) = wA w k := by
  unfold wA
  show _ = ((List.range ((wN w + 1) ^ wV w)).filter (isC (wN w) (wV w) (wf w))).filter _
  rw [List.filter_filter, List.range_eq_range']
  exact List.filter_congr (fun r _ => by unfold lfB; rw [Bool.and_comm])
theorem r12_left (A : mR h w) (H : ∀ h', mk2 h h' → mR h' w → Q (some (.int (aLeft w k))) h') : zC mX12_left [.ref 84, .int k] h Q := by
  obtain ⟨O, b, A⟩ := A
  refine s12_left A.1.1 A.1.2.2.2 A.2.2.2.1.1 O.2.2.1.2.2.2 (fun h' F => ?_)
  have fin := mR_q O A F (by decide) (by decide)
  rw [wA_f]
  exact H h' fin.1 fin.2
theorem r12_sure (A : mR h w) (H : ∀ h', mk2 h h' → mR h' w → Q (some (.int (aSure w x k))) h') : zC mX12_sure [.ref 84, .int x, .int k] h Q := by
  obtain ⟨O, b, A⟩ := A
  have V8 := stO_V O
  refine s12_sure A.1.1 A.1.2.2.2 A.2.2.2.1.1 O.2.2.1.2.2.2 (fun j h' ex hj F => ?_) (fun q => ?_)
  · have fin := mR_q O A F (by decide) (by decide)
    rw [wA_f]
    have e : aSure w x k = suF ((wA w k).map (fun r => dg (wN w + 1) (wV w) r j)) none := by unfold aSure; rw [ex, ix_s hj (by omega)]
    rw [← e]; exact H h' fin.1 fin.2
  · have e : aSure w x k = -1 := by unfold aSure; rw [ix_n (by omega) q]
    rw [← e]; exact H h mk2_rf ⟨O, b, A⟩
theorem r12_rest (A : mR h w) (H : ∀ h', mk2 h h' → mR h' w → Q (some (.int (aRest w x))) h') : zC mX12_rest [.ref 84, .int x] h Q := by
  obtain ⟨O, b, A⟩ := A
  refine s12_rest A.1.1 A.1.2.2.2 (wf_C O) (wf_N O) (fun n h' ex n31 m1 F => ?_) (fun h' F q => ?_)
  · have fin := mR_q O A F (by decide) (by decide)
    have e : aRest w x = oI (rsO (wf w) (ordF n (wV w)) (wV w)) := by
      unfold aRest
      rw [ex, if_neg (nI_pos (by omega)), nI_clamp (by omega), if_pos m1]
    rw [← e]; exact H h' fin.1 fin.2
  · have fin := mR_q O A F (by decide) (by decide)
    have e : aRest w x = -2 := by
      unfold aRest
      rcases q with q | ⟨n, rfl, n31, m1⟩
      · rw [if_pos q]
      · rw [if_neg (nI_pos (by omega)), nI_clamp (by omega), if_neg (by rw [m1]; decide)]
    rw [← e]; exact H h' fin.1 fin.2
theorem r12_soonest (A : mR h w) (H : ∀ h', mk2 h h' → mR h' w → Q (some (.int (aSoonest w x))) h') : zC mX12_soonest [.ref 84, .int x] h Q := by
  obtain ⟨O, b, A⟩ := A
  refine s12_soonest A.1.1 A.1.2.2.2 (wf_C O) (wf_N O) (fun h' q F => ?_) (fun q => ?_)
  · have fin := mR_q O A F (by decide) (by decide)
    have e : aSoonest w x = soA (soF (wf w) (wV w)) x := if_pos q
    rw [← e]; exact H h' fin.1 fin.2
  · have e : aSoonest w x = -1 := if_neg q
    rw [← e]; exact H h mk2_rf ⟨O, b, A⟩
theorem r12_sway (A : mR h w) (H : ∀ h', mk2 h h' → mR h' w → Q (some (.int (aSway w x y))) h') : zC mX12_sway [.ref 84, .int x, .int y] h Q := by
  obtain ⟨O, b, A⟩ := A
  have N3 := stO_N O
  refine s12_sway A.1.1 A.1.2.2.2 (fun j h' ex hj hy F => ?_) (fun q => ?_)
  · have fin := mR_q O A F (by decide) (by decide)
    have e : aSway w x y = swA (swF (wN w) (wV w) (wf w) (wS w) (wW w) j) y := by unfold aSway; rw [ex, ix_s hj (by omega)]; exact if_pos hy
    rw [← e]; exact H h' fin.1 fin.2
  · have e : aSway w x y = -1 := by
      unfold aSway
      rcases q with q | q
      · rw [ix_n (by omega) q]
      · cases ix x (wN w) with
        | none => rfl
        | some j => exact if_neg q
    rw [← e]; exact H h mk2_rf ⟨O, b, A⟩
theorem r12_more (A : mR h w) (H : ∀ h', mk2 h h' → mR h' w → Q (some (.int (aMore w x y))) h') : zC mX12_more [.ref 84, .int x, .int y] h Q := by
  obtain ⟨O, b, A⟩ := A
  have N3 := stO_N O
  have V8 := stO_V O
  have s4 : (wK w).2.1.1 ≤ 4 := O.1.2.1.1
  refine s12_more A.1.1 A.1.2.2.2 A.2.1.1 (mRb_B O A) (fun its m h' ex hi ey hm v8 F g40 => ?_) (fun q => ?_)
  · have fin : mR h' w := ⟨O, b, mRb_fr A F (by decide) (by decide) g40⟩
    have e : aMore w x y = nI ((List.range' 0 ((wN w + 1) ^ wV w)).filter (mrB (wN w) (wV w) (wS w) (wW w) (eN (wE w)) (eD (wE w)) its m)).length := by
      unfold aMore; rw [ex, ey, ix_s hi (by omega), ix_s (Nat.lt_succ_of_le hm) (by omega)]; exact if_neg v8
    rw [← e]; exact H h' (mk2_fr F (by decide) (by decide)) fin
  · have e : aMore w x y = -1 := by
      unfold aMore
      rcases q with q | q | q
      · rw [ix_n (by omega) q]
      · rw [ix_nx (by omega) q]; cases ix x (wK w).2.1.1 <;> rfl
      · cases ix x (wK w).2.1.1 with
        | none => rfl
        | some i => cases ix y (wN w + 1) with
          | none => rfl
          | some m => exact if_pos q
    rw [← e]; exact H h mk2_rf ⟨O, b, A⟩
end

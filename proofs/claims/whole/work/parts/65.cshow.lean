/-! ===== the class: Texts ===== -/
section
variable {h h' : zH} {Q : Option Value → zH → Prop}
theorem s9_holdsTo {n c : Nat} {t : Int32} (hn : n = 2 ∨ n = 3) (hc : c < 3) (T : cTx h n) (H1 : cHd n c t = true → Q (some (.int 1)) h) (H0 : cHd n c t = false → Q (some (.int 0)) h) : zC mX9_holdsTo [.ref 25, .int (nI c), .int t] h Q := by
  have c1 : nI c = 1 ↔ c = 1 := nI_eq (b := 1) (by omega) (by decide)
  have c2 : nI c = 2 ↔ c = 2 := nI_eq (b := 2) (by omega) (by decide)
  have L : ∀ (k v : Nat), v + k = n → (List.range' v k).all (fun v => cRw n c (rwI (nI n) t (nI v)) v) = cHd n c t → zX mX9_holdsTo 2 [.ref 25, .int (nI c), .int t, .int (nI v), .float 0] [] h Q := by
    intro k
    induction k with
    | zero =>
      intro v hv e
      have : v = n := by omega
      subst this
      exact bX9_holdsTo_2 _ _ _ _ _ _ ⟨T.1, br_t (by rw [T.2.1]; exact nI_le (Nat.le_refl _) (by omega)) (H1 (by rw [← e]; rfl))⟩
    | succ k ih =>
      intro v hv e
      rw [all_s] at e
      have ok : cRw n c (rwI (nI n) t (nI v)) v = true → zX mX9_holdsTo 2 [.ref 25, .int (nI c), .int t, .int (nI v + 1), .float 0] [] h Q := fun w => by
        rw [w, Bool.true_and] at e
        rw [nI_1]; exact ih (v + 1) (by omega) e
      have no : cRw n c (rwI (nI n) t (nI v)) v = false → Q (some (.int 0)) h := fun w => H0 (by rw [← e, w]; rfl)
      unfold cRw at ok no
      have at33 : (decide (c = 1) = true → gbE n (rwI (nI n) t (nI v)) v = true) → zX mX9_holdsTo 33 [.ref 25, .int (nI c), .int t, .int (nI v), .int (rwI (nI n) t (nI v))] [] h Q := fun w => by
        have w' : (!decide (c = 1) || gbE n (rwI (nI n) t (nI v)) v) = true := by
          cases z : decide (c = 1) with
          | false => rfl
          | true => rw [w z]; rfl
        rw [w', Bool.true_and] at ok no
        refine bX9_holdsTo_33 _ _ _ _ _ _ _ ?_
        rw [c2]
        refine ⟨fun q => ⟨T.1, s9_grows hn T (fun g => ⟨_, rfl, br_f (by decide +kernel) (ok (by rw [g]; simp))⟩) (fun g => ⟨_, rfl, br_t rfl (no (by rw [g, decide_eq_true q]; rfl))⟩)⟩, fun q => ok (by rw [decide_eq_false q]; rfl)⟩
      refine bX9_holdsTo_2 _ _ _ _ _ _ ⟨T.1, br_f (by rw [T.2.1]; exact nI_ge (by omega) (by omega)) (s9_rowOf hn T ⟨_, rfl, ?_⟩)⟩
      rw [c1]
      refine ⟨fun q => ⟨T.1, s9_goesByElders hn T (fun g => ⟨_, rfl, br_f (by decide +kernel) (at33 (fun _ => g))⟩) (fun g => ⟨_, rfl, br_t rfl (no (by rw [g, decide_eq_true q]; rfl))⟩)⟩, fun q => at33 (fun w => absurd (of_decide_eq_true w) q)⟩
  exact nX9_holdsTo _ _ _ _ _ (bX9_holdsTo_0 _ _ _ _ _ (L n 0 (by omega) rfl))
/-- what stands in the class's fields of a count -/
def cTs (h : zH) (s : zTx) : Prop := gI h 25 2 = nI s.1 ∧ gI h 25 3 = nI s.2.1 ∧ gI h 25 4 = oI s.2.2.1 ∧ gI h 25 5 = nI s.2.2.2
abbrev YT : List (Nat × Nat) := [(25, 0), (25, 1), (25, 2), (25, 3), (25, 4), (25, 5)]
theorem s9_tally {n c t : Nat} {s : zTx} (hn : n = 2 ∨ n = 3) (ht : t < 4096) (K : shK t s) (T : cTx h n) (S : cTs h s) (hh : cHd n c (nI t) = true) (H : ∀ h', fr [] YT h h' → cTx h' n → cTs h' (shU n c t s) → Q none h') : zC mX9_tally [.ref 25, .int (nI t)] h Q := by
  obtain ⟨k1, k2, k3, k4⟩ := K
  have m16 : 2 ^ n ≤ 8 := by rcases hn with rfl | rfl <;> decide
  have e1 : (1 : Int32) <<< ((gI h 25 0) &&& 31) = nI (2 ^ n) := by rw [T.2.1]; exact nI_1shl (by omega)
  have l := @st_le n (nI t)
  unfold shU at H
  rw [if_pos hh] at H
  have at54 : ∀ (h0 : zH) (b : Option Nat), fr [] YT h h0 → cTx h0 n → cTs h0 (s.1, s.2.1, b, s.2.2.2) → b = (if stN n (nI t) = 0 then (match s.2.2.1 with | none => some t | some x => some x) else s.2.2.1) → zX mX9_tally 54 [.ref 25, .float 0, .int (nI (stN n (nI t))), .float 0] [] h0 Q := fun h0 b F T0 S0 hb => by
    generalize stN n (nI t) = sn at *
    have k0 : nI sn = 0 ↔ sn = 0 := by rw [← nI_0]; exact nI_eq (by omega) (by decide)
    refine bX9_tally_54 _ _ _ _ ⟨T0.1, fun h2 e2 => ?_⟩
    have F2 : fr [] YT h0 h2 := by rw [e2]; exact fr_pF (by simp) T0.1 rfl rfl
    have o2 := F2.o T0.1
    have a2 : gI h2 25 2 = nI (s.1 + 1) := by rw [e2, gI_pF_s T0.1 (by decide), S0.1, nI_1]
    have a3 : gI h2 25 3 = nI s.2.1 := by rw [e2, gI_pF_n (Or.inr (by decide))]; exact S0.2.1
    have a4 : gI h2 25 4 = oI b := by rw [e2, gI_pF_n (Or.inr (by decide))]; exact S0.2.2.1
    have a5 : gI h2 25 5 = nI s.2.2.2 := by rw [e2, gI_pF_n (Or.inr (by decide))]; exact S0.2.2.2
    have a0 : gI h2 25 0 = nI n := by rw [e2, gI_pF_n (Or.inr (by decide))]; exact T0.2.1
    have a1 : gI h2 25 1 = nI (2 ^ (n - 1)) := by rw [e2, gI_pF_n (Or.inr (by decide))]; exact T0.2.2
    have fin : ∀ (i : Nat) (h5 h7 : zH), h5 = pF h2 25 3 (.int (nI (s.2.1 + i))) → i = (if sn = 0 then 1 else 0) → h7 = (pF h5 25 5 (.int (if (gI h5 25 5) < nI sn then nI sn else (gI h5 25 5)))) → Q none h7 := fun i h5 h7 e5 hi e7 => by
      have F5 : fr [] YT h2 h5 := by rw [e5]; exact fr_pF (by simp) o2 rfl rfl
      have o5 := F5.o o2
      have b5 : gI h5 25 5 = nI s.2.2.2 := by rw [e5, gI_pF_n (Or.inr (by decide))]; exact a5
      have F7 : fr [] YT h5 h7 := by rw [e7]; exact fr_pF (by simp) o5 rfl rfl
      have hm : (if (gI h5 25 5) < nI sn then nI sn else (gI h5 25 5)) = nI (max s.2.2.2 sn) := by
        rw [b5]
        by_cases w : s.2.2.2 < sn
        · rw [if_pos ((nI_ltI (by omega) (by omega)).mpr w), Nat.max_eq_right (by omega)]
        · rw [if_neg (fun q => w ((nI_ltI (by omega) (by omega)).mp q)), Nat.max_eq_left (by omega)]
      rw [hm] at e7
      refine H h7 (F.tr (F2.tr (F5.tr F7))) ⟨F7.o o5, ?_, ?_⟩ ⟨?_, ?_, ?_, ?_⟩
      · rw [e7, gI_pF_n (Or.inr (by decide)), e5, gI_pF_n (Or.inr (by decide))]; exact a0
      · rw [e7, gI_pF_n (Or.inr (by decide)), e5, gI_pF_n (Or.inr (by decide))]; exact a1
      · rw [e7, gI_pF_n (Or.inr (by decide)), e5, gI_pF_n (Or.inr (by decide))]; exact a2
      · rw [e7, gI_pF_n (Or.inr (by decide)), e5, gI_pF_s o2 (by decide), hi]
      · rw [e7, gI_pF_n (Or.inr (by decide)), e5, gI_pF_n (Or.inr (by decide)), a4]; exact congrArg oI hb
      · rw [e7, gI_pF_s o5 (by decide)]
    rw [k0]
    refine ⟨fun q h5 e5 h7 e7 => fin 1 h5 h7 (by rw [e5, a3, nI_1]) (by rw [if_pos q]) e7, fun q h5 e5 h7 e7 => fin 0 h5 h7 (by rw [e5, a3, Int32.add_zero]; rfl) (by rw [if_neg q]) e7⟩
  have L : ∀ (k a st : Nat), a + k = 2 ^ n → st + ((List.range' a k).filter (agT n (nI t))).length = stN n (nI t) → zX mX9_tally 4 [.ref 25, .int (nI t), .int (nI st), .int (nI a)] [] h Q := by
    intro k
    induction k with
    | zero =>
      intro a st ha e
      have : a = 2 ^ n := by omega
      subst this
      have e' : st = stN n (nI t) := by rw [← e]; rfl
      subst e'
      have k0 : nI (stN n (nI t)) = 0 ↔ stN n (nI t) = 0 := by rw [← nI_0]; exact nI_eq (by omega) (by decide)
      have z3 : gI h 25 4 = -1 ↔ s.2.2.1 = none := by rw [S.2.2.1]; exact oI_ne (fun x hx => by have := k3 x hx; omega)
      refine bX9_tally_4 _ _ _ _ _ _ ⟨T.1, br_t (by rw [e1]; exact nI_le (Nat.le_refl _) (by omega)) ?_⟩
      rw [k0, z3]
      refine ⟨fun q => ⟨fun q2 h5 e5 => ?_, fun q2 => at54 h s.2.2.1 fr.rf T S ?_⟩, fun q => at54 h s.2.2.1 fr.rf T S ?_⟩
      · have F5 : fr [] YT h h5 := by rw [e5]; exact fr_pF (by simp) T.1 rfl rfl
        refine at54 h5 (some t) F5 ⟨F5.o T.1, by rw [e5, gI_pF_n (Or.inr (by decide))]; exact T.2.1, by rw [e5, gI_pF_n (Or.inr (by decide))]; exact T.2.2⟩ ⟨by rw [e5, gI_pF_n (Or.inr (by decide))]; exact S.1, by rw [e5, gI_pF_n (Or.inr (by decide))]; exact S.2.1, by rw [e5, gI_pF_s T.1 (by decide)]; rfl, by rw [e5, gI_pF_n (Or.inr (by decide))]; exact S.2.2.2⟩ ?_
        rw [if_pos q, q2]
      · rw [if_pos q]
        cases z : s.2.2.1 with
        | none => exact absurd z q2
        | some x => rfl
      · rw [if_neg q]
    | succ k ih =>
      intro a st ha e
      rw [List.range'_succ] at e
      refine bX9_tally_4 _ _ _ _ _ _ ⟨T.1, br_f (by rw [e1]; exact nI_ge (by omega) (by omega)) (s9_agrees hn T (fun g => ⟨_, rfl, br_f (by decide +kernel) ?_⟩) (fun g => ⟨_, rfl, br_t rfl ?_⟩))⟩
      · rw [nI_1, nI_1 a]
        refine ih (a + 1) (st + 1) (by omega) ?_
        rw [List.filter_cons_of_pos g, List.length_cons] at e
        omega
      · rw [Int32.add_zero, nI_1 a]
        refine ih (a + 1) st (by omega) ?_
        rw [List.filter_cons_of_neg (by rw [g]; decide)] at e
        omega
  exact nX9_tally _ _ _ _ (bX9_tally_0 _ _ _ _ (L (2 ^ n) 0 0 (by omega) (by rw [Nat.zero_add]; rfl)))
theorem s9_show {n c : Nat} (hn : n = 2 ∨ n = 3) (hc : c < 3) (ho : oK h 25 9) (H : ∀ h', fr [] YT h h' → cTs h' (shR n c) → Q none h') : zC mX9_show [.ref 25, .int (nI n), .int (nI c)] h Q := by
  refine nX9_show _ _ _ _ _ (bX9_show_0 _ _ _ _ _ ⟨ho, fun h2 e2 h4 e4 h6 e6 h8 e8 h10 e10 h12 e12 => ?_⟩)
  have F2 : fr [] YT h h2 := by rw [e2]; exact fr_pF (by simp) ho rfl rfl
  have o2 := F2.o ho
  have F4 : fr [] YT h2 h4 := by rw [e4]; exact fr_pF (by simp) o2 rfl rfl
  have o4 := F4.o o2
  have F6 : fr [] YT h4 h6 := by rw [e6]; exact fr_pF (by simp) o4 rfl rfl
  have o6 := F6.o o4
  have F8 : fr [] YT h6 h8 := by rw [e8]; exact fr_pF (by simp) o6 rfl rfl
  have o8 := F8.o o6
  have F10 : fr [] YT h8 h10 := by rw [e10]; exact fr_pF (by simp) o8 rfl rfl
  have o10 := F10.o o8
  have F12 : fr [] YT h10 h12 := by rw [e12]; exact fr_pF (by simp) o10 rfl rfl
  have T : cTx h12 n := by
    refine ⟨F12.o o10, ?_, ?_⟩
    · rw [e12, gI_pF_n (Or.inr (by decide)), e10, gI_pF_n (Or.inr (by decide)), e8, gI_pF_n (Or.inr (by decide)), e6, gI_pF_n (Or.inr (by decide)), e4, gI_pF_n (Or.inr (by decide)), e2, gI_pF_s ho (by decide)]
    · rw [e12, gI_pF_n (Or.inr (by decide)), e10, gI_pF_n (Or.inr (by decide)), e8, gI_pF_n (Or.inr (by decide)), e6, gI_pF_n (Or.inr (by decide)), e4, gI_pF_s o2 (by decide)]
      exact wd_eq hn
  have S : cTs h12 (0, 0, none, 0) := by
    refine ⟨?_, ?_, ?_, ?_⟩
    · rw [e12, gI_pF_n (Or.inr (by decide)), e10, gI_pF_n (Or.inr (by decide)), e8, gI_pF_n (Or.inr (by decide)), e6, gI_pF_s o4 (by decide)]; rfl
    · rw [e12, gI_pF_n (Or.inr (by decide)), e10, gI_pF_n (Or.inr (by decide)), e8, gI_pF_s o6 (by decide)]; rfl
    · rw [e12, gI_pF_n (Or.inr (by decide)), e10, gI_pF_s o8 (by decide)]; rfl
    · rw [e12, gI_pF_s o10 (by decide)]; rfl
  have FF := F2.tr (F4.tr (F6.tr (F8.tr (F10.tr F12))))
  have t4 := tx_le hn
  have en : (1 : Int32) <<< ((nI n * gI h12 25 1) &&& 31) = nI (txN n) := by
    rw [T.2.2]; rcases hn with rfl | rfl <;> decide +kernel
  rw [en]
  have L : ∀ (k t : Nat) (s : zTx) (h0 : zH), t + k = txN n → shK t s → shF n c k t s = shR n c → fr [] YT h h0 → cTx h0 n → cTs h0 s → zX mX9_show 46 [.ref 25, .float 0, .int (nI c), .int (nI (txN n)), .int (nI t)] [] h0 Q := by
    intro k
    induction k with
    | zero =>
      intro t s h0 ht K e F T S
      have : t = txN n := by omega
      subst this
      have e' : s = shR n c := e
      rw [e'] at S
      exact bX9_show_46 _ _ _ _ _ _ (br_t (nI_le (Nat.le_refl _) (by omega)) (H h0 F S))
    | succ k ih =>
      intro t s h0 ht K e F T S
      rw [shF] at e
      have Kn := shU_k (c := c) hn (show t < 4096 by omega) K
      refine bX9_show_46 _ _ _ _ _ _ (br_f (nI_ge (by omega) (by omega)) ⟨T.1, s9_holdsTo hn hc T (fun g => ⟨_, rfl, br_f (by decide +kernel) ⟨T.1, s9_tally (c := c) hn (by omega) K T S g (fun h7 F7 T7 S7 => ⟨rfl, ?_⟩)⟩⟩) (fun g => ⟨_, rfl, br_t rfl ?_⟩)⟩)
      · rw [nI_1]; exact ih (t + 1) _ h7 (by omega) Kn e (F.tr F7) T7 S7
      · rw [nI_1]
        have : shU n c t s = s := by unfold shU; rw [g]; rfl
        rw [this] at e Kn
        exact ih (t + 1) s h0 (by omega) Kn e F T S
  exact L (txN n) 0 (0, 0, none, 0) h12 (by omega) ⟨Nat.le_refl _, Nat.le_refl _, fun _ w => by (cases w), by decide⟩ rfl FF T S
theorem s11_shown {x y z : Int32} (ho : oK h 0 11) (r6 : gR h 0 6 = some 25) (o9 : oK h 25 9) (H1 : ∀ h' n c, (n = 2 ∨ n = 3) → x = nI n → c < 3 → y = nI c → (z = 0 ∨ z = 1 ∨ z = 2 ∨ z = 3) → fr [] YT h h' → Q (some (.int (shA (shR n c) z))) h') (H0 : ∀ h', ((x < 2 ∨ 3 < x) ∨ (y < 0 ∨ 2 < y) ∨ ¬ (z = 0 ∨ z = 1 ∨ z = 2 ∨ z = 3)) → fr [] YT h h' → Q (some (.int (-1))) h') : zC mX11_shown [.ref 0, .int x, .int y, .int z] h Q := by
  refine nX11_shown _ _ _ _ _ _ (bX11_shown_0 _ _ _ _ _ _ ⟨fun q => H0 h (Or.inl (Or.inl q)) fr.rf, fun q1 => ⟨fun q => H0 h (Or.inl (Or.inr q)) fr.rf, fun q2 => ⟨fun q => H0 h (Or.inr (Or.inl (Or.inl q))) fr.rf, fun q3 => ⟨fun q4 => ?_, fun q => H0 h (Or.inr (Or.inl (Or.inr ?_))) fr.rf⟩⟩⟩⟩)
  · have hx : ∃ n, (n = 2 ∨ n = 3) ∧ x = nI n := by
      by_cases w : x < 0
      · exfalso
        apply q1
        rw [Int32.lt_iff_toInt_lt] at w ⊢
        have e0 : (0 : Int32).toInt = 0 := by decide
        have e2 : (2 : Int32).toInt = 2 := by decide
        omega
      · obtain ⟨m, m1, rfl⟩ := nI_of w
        rw [nI_lit 2, nI_ltI m1 (by decide)] at q1
        rw [nI_lit 3, nI_ltI (by decide) m1] at q2
        exact ⟨m, by omega, rfl⟩
    obtain ⟨n, hn, rfl⟩ := hx
    obtain ⟨c, c1, rfl⟩ := nI_of q3
    rw [nI_lit 2, nI_leI c1 (by decide)] at q4
    have hc : c < 3 := by omega
    refine ⟨ho, _, r6, o9, s9_show hn hc o9 (fun h8 F S => ⟨rfl, ?_⟩)⟩
    have o0 := F.o ho
    have r8 : gR h8 0 6 = some 25 := by rw [F.gr (by simp)]; exact r6
    have o8 := F.o o9
    have HH := fun w => H1 h8 n c hn rfl hc rfl w F
    unfold shA at HH
    refine ⟨fun q => ?_, fun q => ?_, fun q => ?_, fun q => ?_, fun a0 a1 a2 a3 => ?_⟩
    · subst q
      exact bX11_shown_60 _ _ _ ⟨o0, _, r8, o8, by rw [S.1]; exact HH (Or.inl rfl)⟩
    · subst q
      exact bX11_shown_68 _ _ _ ⟨o0, _, r8, o8, by rw [S.2.1]; exact HH (Or.inr (Or.inl rfl))⟩
    · subst q
      exact bX11_shown_76 _ _ _ ⟨o0, _, r8, o8, by rw [S.2.2.1]; exact HH (Or.inr (Or.inr (Or.inl rfl)))⟩
    · subst q
      exact bX11_shown_84 _ _ _ ⟨o0, _, r8, o8, by rw [S.2.2.2]; exact HH (Or.inr (Or.inr (Or.inr rfl)))⟩
    · refine bX11_shown_92 _ _ (H0 h8 (Or.inr (Or.inr ?_)) F)
      rintro (w | w | w | w)
      · exact a0 w
      · exact a1 w
      · exact a2 w
      · exact a3 w
  · rw [Int32.lt_iff_toInt_lt]
    rw [Int32.le_iff_toInt_le] at q
    omega
end

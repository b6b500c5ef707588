/-! ===== small texts: all of them ===== -/
section
variable {h h' : zH} {Q : Option Value → zH → Prop}
theorem cHd0 {n : Nat} {t : Int32} : cHd n 0 t = true := by simp [cHd, cRw]
theorem tx_le {n : Nat} (hn : n = 2 ∨ n = 3) : txN n ≤ 4096 := by rcases hn with rfl | rfl <;> decide
def shT (s : zTx) : Int32 × Int32 × Int32 × Int32 := (nI s.1, nI s.2.1, oI s.2.2.1, nI s.2.2.2)
def shK (t : Nat) (s : zTx) : Prop := s.1 ≤ t ∧ s.2.1 ≤ t ∧ (∀ x, s.2.2.1 = some x → x < 4096) ∧ s.2.2.2 ≤ 8
theorem shU_k {n c t : Nat} {s : zTx} (hn : n = 2 ∨ n = 3) (ht : t < 4096) (K : shK t s) : shK (t + 1) (shU n c t s) := by
  obtain ⟨k1, k2, k3, k4⟩ := K
  unfold shU
  split
  · have l := @st_le n (nI t)
    have m16 : 2 ^ n ≤ 8 := by rcases hn with rfl | rfl <;> decide
    refine ⟨by show s.1 + 1 ≤ t + 1; omega, by show s.2.1 + _ ≤ t + 1; split <;> omega, fun x hx => ?_, by show max _ _ ≤ 8; omega⟩
    by_cases z : stN n (nI t) = 0
    · simp only [z, if_true] at hx
      cases hs : s.2.2.1 with
      | none => rw [hs] at hx; cases hx; exact ht
      | some y => rw [hs] at hx; cases hx; exact k3 _ hs
    · simp only [z, if_false] at hx
      exact k3 x hx
  · exact ⟨by omega, by omega, k3, k4⟩
theorem s12_shown {x y z : Int32} (H1 : ∀ n c, (n = 2 ∨ n = 3) → x = nI n → c < 3 → y = nI c → (z = 0 ∨ z = 1 ∨ z = 2 ∨ z = 3) → Q (some (.int (shA (shR n c) z))) h) (H0 : ((x < 2 ∨ 3 < x) ∨ (y < 0 ∨ 2 < y) ∨ ¬ (z = 0 ∨ z = 1 ∨ z = 2 ∨ z = 3)) → Q (some (.int (-1))) h) : zC mX12_shown [.ref 84, .int x, .int y, .int z] h Q := by
  refine nX12_shown _ _ _ _ _ _ (bX12_shown_0 _ _ _ _ _ _ (s12_isIn (fun q => ⟨_, rfl, br_t rfl (H0 (Or.inl q))⟩) (fun q1 q2 => ⟨_, rfl, br_f (by decide +kernel) (s12_isIn (fun q => ⟨_, rfl, br_t rfl (H0 (Or.inr (Or.inl q)))⟩) (fun q3 q4 => ⟨_, rfl, br_f (by decide +kernel) (s12_isIn (fun q => ⟨_, rfl, br_t rfl (H0 (Or.inr (Or.inr (fun w => ?_))))⟩) (fun q5 q6 => ⟨_, rfl, br_f (by decide +kernel) ?_⟩))⟩))⟩)))
  · rcases w with w | w | w | w <;> rw [w] at q <;> exact absurd q (by decide)
  have hz : z = 0 ∨ z = 1 ∨ z = 2 ∨ z = 3 := by
    obtain ⟨m, m1, rfl⟩ := nI_of q5
    rw [nI_lit 3, nI_ltI (by decide) m1] at q6
    have : m = 0 ∨ m = 1 ∨ m = 2 ∨ m = 3 := by omega
    rcases this with rfl | rfl | rfl | rfl
    · exact Or.inl rfl
    · exact Or.inr (Or.inl rfl)
    · exact Or.inr (Or.inr (Or.inl rfl))
    · exact Or.inr (Or.inr (Or.inr rfl))
  have hx : ∃ n, (n = 2 ∨ n = 3) ∧ x = nI n := by
    by_cases w : x < 0
    · exfalso
      apply q1
      rw [Int32.lt_iff_toInt_lt] at w ⊢
      have e0 : (0 : Int32).toInt = 0 := by decide
      have e2 : (2 : Int32).toInt = 2 := by decide
      omega
    · obtain ⟨m, m1, rfl⟩ := nI_of w
      rw [nI_lit 2, nI_ltI m1 (by decide)] at q1
      rw [nI_lit 3, nI_ltI (by decide) m1] at q2
      exact ⟨m, by omega, rfl⟩
  obtain ⟨n, hn, rfl⟩ := hx
  obtain ⟨c, c1, rfl⟩ := nI_of q3
  rw [nI_lit 2, nI_ltI (by decide) c1] at q4
  have hc : c < 3 := by omega
  have HH := H1 n c hn rfl hc rfl hz
  have t4 := tx_le hn
  have L : ∀ (k t : Nat) (s : zTx), t + k = txN n → shK t s → shF n c k t s = shR n c → zX mX12_shown 59 [.float 0, .int (nI n), .int (nI c), .int z, .int (nI (txN n)), .int (nI s.1), .int (nI s.2.1), .int (oI s.2.2.1), .int (nI s.2.2.2), .int (nI t), .float 0] [] h Q := by
    intro k
    induction k with
    | zero =>
      intro t s ht K e
      have : t = txN n := by omega
      subst this
      have e' : s = shR n c := e
      rw [← e'] at HH
      refine bX12_shown_59 _ _ _ _ _ _ _ _ _ _ _ (br_t (nI_le (Nat.le_refl _) (by omega)) ?_)
      unfold shA at HH
      refine ⟨fun q => by rw [if_pos q] at HH; exact HH, fun q => ⟨fun q2 => by rw [if_neg q, if_pos q2] at HH; exact HH, fun q2 => ⟨fun q3 => by rw [if_neg q, if_neg q2, if_pos q3] at HH; exact HH, fun q3 => by rw [if_neg q, if_neg q2, if_neg q3] at HH; exact HH⟩⟩⟩
    | succ k ih =>
      intro t s ht K e
      rw [shF] at e
      have Kn := shU_k (c := c) hn (show t < 4096 by omega) K
      have nx := ih (t + 1) (shU n c t s) (by omega) Kn e
      obtain ⟨k1, k2, k3, k4⟩ := K
      have at83 : cHd n c (nI t) = true → zX mX12_shown 83 [.float 0, .int (nI n), .int (nI c), .int z, .int (nI (txN n)), .int (nI s.1), .int (nI s.2.1), .int (oI s.2.2.1), .int (nI s.2.2.2), .int (nI t), .float 0] [] h Q := fun hh => by
        unfold shU at nx
        rw [if_pos hh] at nx
        have l := @st_le n (nI t)
        have m16 : 2 ^ n ≤ 8 := by rcases hn with rfl | rfl <;> decide
        refine bX12_shown_83 _ _ _ _ _ _ _ _ _ _ _ (s12_standing hn ⟨_, rfl, ?_⟩)
        generalize stN n (nI t) = sn at *
        have k0 : nI sn = 0 ↔ sn = 0 := by rw [← nI_0]; exact nI_eq (by omega) (by decide)
        have fin : ∀ (nn : Nat) (fi : Int32), nn = s.2.1 + (if sn = 0 then 1 else 0) → fi = oI (if sn = 0 then (match s.2.2.1 with | none => some t | some x => some x) else s.2.2.1) → zX mX12_shown 123 [.float 0, .int (nI n), .int (nI c), .int z, .int (nI (txN n)), .int (nI (s.1 + 1)), .int (nI nn), .int fi, .int (nI s.2.2.2), .int (nI t), .int (nI sn)] [] h Q := fun nn fi h1 h2 => by
          refine bX12_shown_123 _ _ _ _ _ _ _ _ _ _ _ _ ?_
          rw [nI_leI (by omega) (by omega), nI_1, h1, h2]
          refine ⟨fun q => ?_, fun q => ?_⟩
          · rw [Nat.max_eq_left (by omega)] at nx; exact nx
          · rw [Nat.max_eq_right (by omega)] at nx; exact nx
        rw [k0, nI_1]
        refine ⟨fun q => bX12_shown_106 _ _ _ _ _ _ _ _ _ _ _ _ _ ?_, fun q => bX12_shown_106 _ _ _ _ _ _ _ _ _ _ _ _ _ ?_⟩
        · rw [k0, nI_1]
          refine br_t q ⟨fun q2 => ?_, fun q2 => ?_⟩
          · refine fin _ _ (by rw [if_pos q]) ?_
            rw [if_pos q]
            cases hs : s.2.2.1 with
            | none => rw [hs] at q2; exact absurd q2 (by decide)
            | some y => rfl
          · refine fin _ _ (by rw [if_pos q]) ?_
            rw [if_pos q]
            cases hs : s.2.2.1 with
            | none => rfl
            | some y => rw [hs] at q2; exact absurd (nI_pos' (by have := k3 y hs; omega)) q2
        · rw [k0, Int32.add_zero]
          exact br_f q (fin _ _ (by rw [if_neg q]; rfl) (by rw [if_neg q]))
      have skip : cHd n c (nI t) = false → zX mX12_shown 59 [.float 0, .int (nI n), .int (nI c), .int z, .int (nI (txN n)), .int (nI s.1), .int (nI s.2.1), .int (oI s.2.2.1), .int (nI s.2.2.2), .int (nI t + 1), .float 0] [] h Q := fun hh => by
        unfold shU at nx
        rw [hh] at nx
        rw [nI_1]; exact nx
      refine bX12_shown_59 _ _ _ _ _ _ _ _ _ _ _ (br_f (nI_ge (by omega) (by omega)) ?_)
      rw [← nI_0, nI_leI (by omega) (by decide)]
      refine ⟨fun q => at83 ?_, fun q => s12_isBy hn (by omega) (fun hh => ⟨_, rfl, br_f (by decide +kernel) (at83 ?_)⟩) (fun hh => ⟨_, rfl, br_t rfl (skip ?_)⟩)⟩
      · have : c = 0 := by omega
        subst this; exact cHd0
      · rw [← hd_eq hn hc]; exact hh
      · rw [← hd_eq hn hc]; exact hh
  have e2 : nI n = 2 ↔ n = 2 := nI_eq (b := 2) (by omega) (by decide)
  rw [e2]
  have go := L (txN n) 0 (0, 0, none, 0) (by omega) ⟨Nat.le_refl _, Nat.le_refl _, fun _ w => by (cases w), by decide⟩ rfl
  refine ⟨fun q => ?_, fun q => ?_⟩
  · subst q
    have e16 : nI (txN 2) = 16 := by decide +kernel
    rw [e16] at go
    exact go
  · have : n = 3 := by omega
    subst this
    have e16 : nI (txN 3) = 4096 := by decide +kernel
    rw [e16] at go
    exact go
/-! the class -/
def cTx (h : zH) (n : Nat) : Prop := oK h 25 9 ∧ gI h 25 0 = nI n ∧ gI h 25 1 = nI (2 ^ (n - 1))
theorem s9_rowOf {n : Nat} {t v : Int32} (hn : n = 2 ∨ n = 3) (T : cTx h n) (H : Q (some (.int (rwI (nI n) t v))) h) : zC mX9_rowOf [.ref 25, .int t, .int v] h Q := by
  refine nX9_rowOf _ _ _ _ _ (bX9_rowOf_0 _ _ _ _ _ ⟨T.1, ?_⟩)
  rw [T.2.1, T.2.2, ← wd_eq hn]
  exact H
theorem s9_agrees {n a : Nat} {t : Int32} (hn : n = 2 ∨ n = 3) (T : cTx h n) (H1 : agT n t a = true → Q (some (.int 1)) h) (H0 : agT n t a = false → Q (some (.int 0)) h) : zC mX9_agrees [.ref 25, .int t, .int (nI a)] h Q := by
  have L : ∀ (k v : Nat), v + k = n → (List.range' v k).all (fun v => decide (btI (rwI (nI n) t (nI v)) (otI (nI a) (nI v)) = btI (nI a) (nI v))) = agT n t a → zX mX9_agrees 2 [.ref 25, .int t, .int (nI a), .int (nI v), .float 0, .float 0] [] h Q := by
    intro k
    induction k with
    | zero =>
      intro v hv e
      have : v = n := by omega
      subst this
      exact bX9_agrees_2 _ _ _ _ _ _ ⟨T.1, br_t (by rw [T.2.1]; exact nI_le (Nat.le_refl _) (by omega)) (H1 (by rw [← e]; rfl))⟩
    | succ k ih =>
      intro v hv e
      rw [all_s] at e
      refine bX9_agrees_2 _ _ _ _ _ _ ⟨T.1, br_f (by rw [T.2.1]; exact nI_ge (by omega) (by omega)) (s9_rowOf hn T ⟨_, rfl, fun q => ?_, fun q => ?_⟩)⟩
      · have q' : btI (rwI (nI n) t (nI v)) (otI (nI a) (nI v)) = btI (nI a) (nI v) := q
        rw [decide_eq_true q', Bool.true_and] at e
        rw [nI_1]; exact ih (v + 1) (by omega) e
      · have q' : ¬ btI (rwI (nI n) t (nI v)) (otI (nI a) (nI v)) = btI (nI a) (nI v) := q
        rw [decide_eq_false q', Bool.false_and] at e
        exact H0 e.symm
  exact nX9_agrees _ _ _ _ _ (bX9_agrees_0 _ _ _ _ _ (L n 0 (by omega) rfl))
theorem s9_goesByElders {n v : Nat} {r : Int32} (hn : n = 2 ∨ n = 3) (T : cTx h n) (H1 : gbE n r v = true → Q (some (.int 1)) h) (H0 : gbE n r v = false → Q (some (.int 0)) h) : zC mX9_goesByElders [.ref 25, .int r, .int (nI v)] h Q := by
  have w4 : 2 ^ (n - 1) ≤ 4 := by rcases hn with rfl | rfl <;> decide
  have L : ∀ (k o : Nat), o + k = 2 ^ (n - 1) → (List.range' o k).all (fun o => decide (btI r (nI o) = btI r (nI o &&& (((1 : Int32) <<< (nI v &&& 31)) - (1 : Int32))))) = gbE n r v → zX mX9_goesByElders 2 [.ref 25, .int r, .int (nI v), .int (nI o), .float 0] [] h Q := by
    intro k
    induction k with
    | zero =>
      intro o ho e
      have : o = 2 ^ (n - 1) := by omega
      subst this
      exact bX9_goesByElders_2 _ _ _ _ _ _ ⟨T.1, br_t (by rw [T.2.2]; exact nI_le (Nat.le_refl _) (by omega)) (H1 (by rw [← e]; rfl))⟩
    | succ k ih =>
      intro o ho e
      rw [all_s] at e
      refine bX9_goesByElders_2 _ _ _ _ _ _ ⟨T.1, br_f (by rw [T.2.2]; exact nI_ge (by omega) (by omega)) ⟨fun q => ?_, fun q => ?_⟩⟩
      · have q' : btI r (nI o) = btI r (nI o &&& (((1 : Int32) <<< (nI v &&& 31)) - (1 : Int32))) := q
        rw [decide_eq_true q', Bool.true_and] at e
        rw [nI_1]; exact ih (o + 1) (by omega) e
      · have q' : ¬ btI r (nI o) = btI r (nI o &&& (((1 : Int32) <<< (nI v &&& 31)) - (1 : Int32))) := q
        rw [decide_eq_false q', Bool.false_and] at e
        exact H0 e.symm
  exact nX9_goesByElders _ _ _ _ _ (bX9_goesByElders_0 _ _ _ _ _ (L (2 ^ (n - 1)) 0 (by omega) rfl))
theorem s9_grows {n : Nat} {r : Int32} (hn : n = 2 ∨ n = 3) (T : cTx h n) (H1 : grB n r = true → Q (some (.int 1)) h) (H0 : grB n r = false → Q (some (.int 0)) h) : zC mX9_grows [.ref 25, .int r] h Q := by
  have w4 : 2 ^ (n - 1) ≤ 4 := by rcases hn with rfl | rfl <;> decide
  have LB : ∀ (k i o : Nat), i + k = n - 1 → (∀ o', o' = o + 1 → (List.range' o' (2 ^ (n - 1) - o')).all (fun o => (List.range' 0 (n - 1)).all (fun i => decide (btI r (nI o) ≤ btI r (nI o ||| nI (2 ^ i))))) = grB n r → zX mX9_grows 2 [.ref 25, .int r, .int (nI o'), .float 0] [] h Q) → ((List.range' i k).all (fun i => decide (btI r (nI o) ≤ btI r (nI o ||| nI (2 ^ i)))) && (List.range' (o + 1) (2 ^ (n - 1) - (o + 1))).all (fun o => (List.range' 0 (n - 1)).all (fun i => decide (btI r (nI o) ≤ btI r (nI o ||| nI (2 ^ i)))))) = grB n r → zX mX9_grows 12 [.ref 25, .int r, .int (nI o), .int (nI (2 ^ i))] [] h Q := by
    intro k
    induction k with
    | zero =>
      intro i o hi go e
      have : i = n - 1 := by omega
      subst this
      refine bX9_grows_12 _ _ _ _ _ _ ⟨T.1, br_t (by rw [T.2.2]; exact nI_le (Nat.le_refl _) (by omega)) ?_⟩
      rw [nI_1]
      exact go _ rfl (by rw [← e]; rfl)
    | succ k ih =>
      intro i o hi go e
      rw [all_s] at e
      have hp : 2 ^ i < 2 ^ (n - 1) := Nat.pow_lt_pow_right (by decide) (by omega)
      refine bX9_grows_12 _ _ _ _ _ _ ⟨T.1, br_f (by rw [T.2.2]; exact nI_ge hp (by omega)) ⟨fun q => ?_, fun q => ?_⟩⟩
      · have q' : btI r (nI o) ≤ btI r (nI o ||| nI (2 ^ i)) := q
        rw [decide_eq_true q', Bool.true_and] at e
        have e2 : nI (2 ^ i) <<< ((1 : Int32) &&& 31) = nI (2 ^ (i + 1)) := by
          have := nI_shl (n := 2 ^ i) (k := 1) (by decide) (by omega)
          rw [Nat.pow_succ]; exact this
        rw [e2]; exact ih (i + 1) o (by omega) go e
      · have q' : ¬ btI r (nI o) ≤ btI r (nI o ||| nI (2 ^ i)) := q
        rw [decide_eq_false q'] at e
        exact H0 (by rw [← e]; rfl)
  have LA : ∀ (k o : Nat), o + k = 2 ^ (n - 1) → (List.range' o k).all (fun o => (List.range' 0 (n - 1)).all (fun i => decide (btI r (nI o) ≤ btI r (nI o ||| nI (2 ^ i))))) = grB n r → zX mX9_grows 2 [.ref 25, .int r, .int (nI o), .float 0] [] h Q := by
    intro k
    induction k with
    | zero =>
      intro o ho e
      have : o = 2 ^ (n - 1) := by omega
      subst this
      exact bX9_grows_2 _ _ _ _ _ ⟨T.1, br_t (by rw [T.2.2]; exact nI_le (Nat.le_refl _) (by omega)) (H1 (by rw [← e]; rfl))⟩
    | succ k ih =>
      intro o ho e
      rw [all_s] at e
      refine bX9_grows_2 _ _ _ _ _ ⟨T.1, br_f (by rw [T.2.2]; exact nI_ge (by omega) (by omega)) (LB (n - 1) 0 o (by omega) (fun o' eo e' => ?_) (by rw [← e, show 2 ^ (n - 1) - (o + 1) = k by omega]))⟩
      subst eo
      refine ih (o + 1) (by omega) ?_
      rw [show 2 ^ (n - 1) - (o + 1) = k by omega] at e'
      exact e'
  exact nX9_grows _ _ _ _ (bX9_grows_0 _ _ _ _ (LA (2 ^ (n - 1)) 0 (by omega) rfl))
end

/-! ===== the reference: rows ===== -/
section
variable {h h' : zH} {b N ns V xv : Nat} {st wt mk : Nat → Nat} {Q : Option Value → zH → Prop} {X : List Nat} {Y : List (Nat × Nat)}
theorem l12_layMarks (M : mT h b N ns V st wt) : ∀ (k r : Nat) (h0 : zH), k ≤ V → r < 2 ^ 31 → fr [106] [] h h0 → aI h0 106 8 = aI h 106 8 → (∀ h', fr [106] [] h h' → aI h' 106 8 = aI h 106 8 → (∀ v, v < k → aI h' 106 v = nI (dg (N + 1) k r v)) → (∀ v, k ≤ v → aI h' 106 v = aI h0 106 v) → Q none h') → zX mX12_layMarks 9 [.ref 84, .float 0, .int (nI r), .int (nI k + (-1))] [] h0 Q := by
  have hV := M.V8
  have hN := M.N3
  intro k
  induction k with
  | zero =>
    intro r h0 hk hr F e8 H
    exact bX12_layMarks_9 _ _ _ _ _ (br_t nI_d0 (H h0 F e8 (fun v hv => absurd hv (Nat.not_lt_zero _)) (fun _ _ => rfl)))
  | succ k ih =>
    intro r h0 hk hr F e8 H
    have M0 := M.fr F (by decide)
    rw [nI_dn]
    have n0 : ¬ nI N + 1 = 0 := by rw [nI_1]; exact nI_ne0 (by omega) (by omega)
    refine bX12_layMarks_9 _ _ _ _ _ (br_f (nI_pos (by omega)) ⟨M0.l.o, _, M0.l.r38, s12_nameMany M0 ⟨_, rfl, n0, M0.l.k38, by rw [M0.l.n38]; exact vp_in_nI (by omega) (by decide), fun h3 e3 => ?_⟩⟩)
    rw [nI_1, pk_rem hr (by omega) (by omega), nI_clamp (by omega)] at e3
    have F3 : fr [106] [] h0 h3 := by rw [e3]; exact fr_pI (by decide)
    have M3 := M0.fr F3 (by decide)
    refine ⟨M3.l.o, s12_nameMany M3 ⟨_, rfl, n0, ?_⟩⟩
    rw [nI_1, pk_div hr (by omega) (by omega)]
    have hd : r / (N + 1) < 2 ^ 31 := Nat.lt_of_le_of_lt (Nat.div_le_self _ _) hr
    refine ih (r / (N + 1)) h3 (by omega) hd (F.tr F3) (by rw [e3, aI_pI_n (Or.inr (by omega)), e8]) (fun h' F' e8' a1 a2 => H h' F' e8' (fun v hv => ?_) (fun v hv => ?_))
    · by_cases z : v = k
      · subst z
        rw [a2 v (Nat.le_refl _), e3, aI_pI_s ⟨_, M0.l.k38⟩, dg, if_pos rfl]
      · rw [a1 v (by omega), dg, if_neg z]
    · rw [a2 v (by omega), e3, aI_pI_n (Or.inr (by omega))]
theorem s12_layMarks (M : mT h b N ns V st wt) {r : Nat} (hr : r < 2 ^ 31) (H : ∀ h', fr [106] [] h h' → aI h' 106 8 = aI h 106 8 → mM h' V N (dg (N + 1) V r) → Q none h') : zC mX12_layMarks [.ref 84, .int (nI r)] h Q := by
  refine nX12_layMarks _ _ _ _ (bX12_layMarks_0 _ _ _ _ ⟨M.l.o, s12_voterMany M ⟨_, rfl, ?_⟩⟩)
  rw [nI_s1]
  exact l12_layMarks M V r h (Nat.le_refl _) hr fr.rf rfl (fun h' F e8 a1 _ => H h' F e8 (fun v hv => ⟨a1 v hv, Nat.le_of_lt_succ (dg_lt (by omega))⟩))
/-- a row's number out of its marks -/
def ro (N : Nat) (mk : Nat → Nat) : Nat → Nat → Nat → Nat
  | 0, _, a => a
  | d + 1, j, a => ro N mk d (j + 1) (a * (N + 1) + mk j)
theorem ro_en (N : Nat) (mk : Nat → Nat) : ∀ (d j : Nat), ro N mk d j (en (N + 1) j mk) = en (N + 1) (j + d) mk
  | 0, j => rfl
  | d + 1, j => by
    rw [ro, show en (N + 1) j mk * (N + 1) + mk j = en (N + 1) (j + 1) mk from rfl, ro_en N mk d (j + 1)]
    congr 1
    omega
theorem pw_le {N V : Nat} (hN : N ≤ 3) (hV : V ≤ 8) : (N + 1) ^ V ≤ 65536 :=
  Nat.le_trans (Nat.pow_le_pow_left (by omega : N + 1 ≤ 4) V) (Nat.le_trans (Nat.pow_le_pow_right (by decide) hV) (by decide))
theorem s12_rowNow (M : mT h b N ns V st wt) (K : mM h V N mk) (H : Q (some (.int (nI (en (N + 1) V mk)))) h) : zC mX12_rowNow [.ref 84] h Q := by
  have hV := M.V8
  have hN := M.N3
  have L : ∀ (d j : Nat), j + d = V → zX mX12_rowNow 4 [.ref 84, .int (nI (en (N + 1) j mk)), .int (nI j)] [] h Q := by
    intro d
    induction d with
    | zero =>
      intro j hj
      have : j = V := by omega
      subst this
      exact bX12_rowNow_4 _ _ _ _ _ ⟨M.l.o, s12_voterMany M ⟨_, rfl, br_t (nI_le (Nat.le_refl _) (by omega)) H⟩⟩
    | succ d ih =>
      intro j hj
      refine bX12_rowNow_4 _ _ _ _ _ ⟨M.l.o, s12_voterMany M ⟨_, rfl, br_f (nI_ge (by omega) (by omega)) ⟨M.l.o, s12_nameMany M ⟨_, rfl, M.l.o, _, M.l.r38, M.l.k38, by rw [M.l.n38]; exact vp_in_nI (by omega) (by decide), ?_⟩⟩⟩⟩
      rw [nI_1, nI_mul, nI_clamp (by omega), (K j (by omega)).1, nI_add, nI_1]
      exact ih (j + 1) (by omega)
  exact nX12_rowNow _ _ _ (bX12_rowNow_0 _ _ _ (L V 0 (by omega)))
/-- bits (two a voter, the first lowest) of what all say; who says his mark -/
def sdF (f : Nat → Nat) : Nat → Nat
  | 0 => 0
  | j + 1 => sdF f j ||| (f j) <<< (2 * j)
def kpF (f mk : Nat → Nat) : Nat → Nat
  | 0 => 0
  | j + 1 => kpF f mk j ||| (if f j = mk j then 1 <<< j else 0)
/-- what all say of marks mk -/
def syF (V N : Nat) (st wt : Nat → Nat) (cn : Nat → Nat) (cd : Nat → Nat → Nat × Nat × Nat) (mk : Nat → Nat) (v : Nat) : Nat := sayF V N st wt mk v (cn v) (cd v)
/-- all ballots -/
def mB (h : zH) (b V N : Nat) (cn : Nat → Nat) (cd : Nat → Nat → Nat × Nat × Nat) : Prop := ∀ v, v < V → mC h (8 * b + v) (cn v) (cd v) ∧ okC V N v (cn v) (cd v)
theorem mB.fr {cn : Nat → Nat} {cd : Nat → Nat → Nat × Nat × Nat} (B : mB h b V N cn cd) (F : fr X Y h h') (hX : [97, 99, 100, 101].all (fun k => !(X.contains k)) = true) : mB h' b V N cn cd := fun v hv => ⟨(B v hv).1.fr F hX, (B v hv).2⟩
theorem ex_le {V N V' : Nat} {st wt mk : Nat → Nat} {own : Nat} {c : Nat → Nat × Nat × Nat} {n : Nat} {Hh : Nat → Nat} (hm : ∀ v, v < V' → mk v ≤ N) (O : ∀ i, i < n → Hh i ≤ 40 ∧ okO V' N own n i Hh (c i)) : ∀ (k i ow : Nat) (l : List Int32), i + k = n → ex V N st wt mk own c k i ow l ≤ N
  | 0, _, _, _, _ => Nat.zero_le _
  | k + 1, i, ow, l, hi => by
    rw [ex]
    split
    · exact ex_le hm O k (i + 1) ow l (by omega)
    · have hok := (O i (by omega)).2
      cases e : st1 V N st wt mk own (c i) ow l with
      | inr p => exact ex_le hm O k (i + 1) p.1 p.2 (by omega)
      | inl r =>
        show r ≤ N
        unfold st1 at e
        rcases hok with ⟨g, _⟩ | ⟨g, _⟩ | ⟨g, _⟩ | ⟨g, _⟩ | ⟨g, _⟩ | ⟨g, _, _, _, g2⟩ | ⟨g, _, _, _, g2, _⟩ | ⟨g, _⟩ | ⟨g, _⟩
        · simp [g] at e
        · simp [g] at e
        · simp [g] at e
        · simp [g] at e
        · simp [g] at e
        · simp [g] at e; omega
        · simp [g] at e; rw [← e]; exact hm _ g2
        · rcases g with g | g
          · simp [g] at e; rw [← e]; exact mst_le _ N N 1 0 0 (Nat.zero_le _) (by omega)
          · simp [g] at e; rw [← e]; exact fwt_le _ N N 1 0 0 (Nat.zero_le _) (by omega)
        · rcases g with g | g | g | g | g | g | g <;> simp [g] at e
theorem sayF_le {V N V' : Nat} {st wt mk : Nat → Nat} {own n : Nat} {c : Nat → Nat × Nat × Nat} (hm : ∀ v, v < V' → mk v ≤ N) (O : okC V' N own n c) : sayF V N st wt mk own n c ≤ N := by
  obtain ⟨-, Hh, -, O⟩ := O
  exact ex_le hm O n 0 0 [] (by omega)
theorem lt_or2 {a c k : Nat} (ha : a < 2 ^ k) (hc : c < 2 ^ k) : a ||| c < 2 ^ k := Nat.or_lt_two_pow ha hc
theorem sdF_lt {f : Nat → Nat} {N : Nat} (hN : N ≤ 3) : ∀ {j : Nat}, (∀ v, v < j → f v ≤ N) → sdF f j < 2 ^ (2 * j)
  | 0, _ => by simp [sdF]
  | j + 1, hf => by
    rw [sdF]
    have h1 := sdF_lt hN (fun v hv => hf v (by omega) : ∀ v, v < j → f v ≤ N)
    have h2 := hf j (Nat.lt_succ_self j)
    refine lt_or2 (Nat.lt_of_lt_of_le h1 (Nat.pow_le_pow_right (by decide) (by omega))) ?_
    rw [Nat.shiftLeft_eq, show 2 * (j + 1) = 2 + 2 * j by omega, Nat.pow_add]
    exact Nat.mul_lt_mul_of_pos_right (by omega) (Nat.two_pow_pos _)
theorem kpF_lt {f mk : Nat → Nat} : ∀ {j : Nat}, kpF f mk j < 2 ^ j
  | 0 => by simp [kpF]
  | j + 1 => by
    rw [kpF]
    refine lt_or2 (Nat.lt_of_lt_of_le kpF_lt (Nat.pow_le_pow_right (by decide) (by omega))) ?_
    split
    · rw [Nat.one_shiftLeft]; exact Nat.pow_lt_pow_right (by decide) (by omega)
    · exact Nat.two_pow_pos _
theorem kpF_bit {f mk : Nat → Nat} : ∀ {j v : Nat}, (kpF f mk j).testBit v = (decide (v < j) && decide (f v = mk v))
  | 0, v => by simp [kpF]
  | j + 1, v => by
    rw [kpF, Nat.testBit_or, kpF_bit]
    by_cases e : v = j
    · subst e
      by_cases e2 : f v = mk v
      · simp [e2, Nat.testBit_shiftLeft]
      · simp [e2]
    · have : (if f j = mk j then 1 <<< j else 0).testBit v = false := by
        split
        · rw [Nat.testBit_shiftLeft]
          rcases Nat.lt_or_ge v j with z | z
          · simp; omega
          · obtain ⟨q, rfl⟩ : ∃ q, v = j + q + 1 := ⟨v - j - 1, by omega⟩
            rw [show j + q + 1 - j = q + 1 by omega]
            simp [Nat.testBit_succ]
        · simp
      rw [this, Bool.or_false]
      have : (decide (v < j + 1)) = decide (v < j) := by simp; omega
      rw [this]
theorem sdF_dig {f : Nat → Nat} {N : Nat} (hN : N ≤ 3) : ∀ {j v : Nat}, (∀ v, v < j → f v ≤ N) → v < j → sdF f j / 2 ^ (2 * v) % 4 = f v
  | 0, v, _, hv => absurd hv (Nat.not_lt_zero v)
  | j + 1, v, hf, hv => by
    have h1 := sdF_lt hN (fun v hv => hf v (by omega) : ∀ v, v < j → f v ≤ N)
    have h2 := hf j (Nat.lt_succ_self j)
    rw [sdF, Nat.or_comm, Nat.shiftLeft_eq, Nat.mul_comm, ← Nat.two_pow_add_eq_or_of_lt h1]
    by_cases e : v = j
    · subst e
      rw [Nat.mul_add_div (Nat.two_pow_pos _), Nat.div_eq_of_lt h1, Nat.add_zero, Nat.mod_eq_of_lt (by omega)]
    · obtain ⟨q, rfl⟩ : ∃ q, j = v + q + 1 := ⟨j - v - 1, by omega⟩
      have ih := sdF_dig hN (fun w hw => hf w (by omega) : ∀ w, w < v + q + 1 → f w ≤ N) (by omega : v < v + q + 1)
      rw [show 2 * (v + q + 1) = 2 * v + (2 + 2 * q) by omega, Nat.pow_add, Nat.mul_assoc, Nat.mul_add_div (Nat.two_pow_pos _), Nat.pow_add, Nat.mul_assoc, show (2 : Nat) ^ 2 = 4 from rfl, Nat.mul_add_mod, ih]
end

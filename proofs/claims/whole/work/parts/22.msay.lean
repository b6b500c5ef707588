/-! ===== the reference: votes, what a ballot says ===== -/
section
variable {h h' : zH} {b N ns V xv : Nat} {st wt mk : Nat → Nat} {Q : Option Value → zH → Prop} {X : List Nat} {Y : List (Nat × Nat)}
def mT (h : zH) (b N ns V : Nat) (st wt : Nat → Nat) : Prop := mLay h ∧ gI h 84 26 = nI b ∧ b < 2 ∧ aI h 87 b = nI N ∧ N ≤ 3 ∧ aI h 88 b = nI ns ∧ ns ≤ 4 ∧ aI h 89 b = nI V ∧ V ≤ 8 ∧ ∀ v, v < V → aI h 94 (8 * b + v) = nI (st v) ∧ aI h 95 (8 * b + v) = nI (wt v) ∧ st v < ns ∧ wt v ≤ 9
def okM (X : List Nat) (Y : List (Nat × Nat)) : Bool := [87, 88, 89, 94, 95].all (fun k => !(X.contains k)) && !(Y.contains (84, 26)) && mRefs.all (fun f => !(Y.contains (84, f)))
theorem ni_of {α : Type} [BEq α] [LawfulBEq α] {X : List α} {k : α} (h : (!(X.contains k)) = true) : k ∉ X := by simpa using h
theorem mT.fr (M : mT h b N ns V st wt) (F : fr X Y h h') (hc : okM X Y = true) : mT h' b N ns V st wt := by
  obtain ⟨m1, m2, m3, m4, m5, m6, m7, m8, m9, m10⟩ := M
  simp only [okM, Bool.and_eq_true, List.all_cons, List.all_nil, and_true] at hc
  obtain ⟨⟨⟨c1, c2, c3, c4, c5⟩, c6⟩, c7⟩ := hc
  refine ⟨m1.fr F c7, by rw [F.gi (ni_of c6), m2], m3, by rw [F.i (ni_of c1), m4], m5, by rw [F.i (ni_of c2), m6], m7, by rw [F.i (ni_of c3), m8], m9, fun v hv => ?_⟩
  rw [F.i (ni_of c4), F.i (ni_of c5)]
  exact m10 v hv
theorem mT.l (M : mT h b N ns V st wt) : mLay h := M.1
theorem mT.b26 (M : mT h b N ns V st wt) : gI h 84 26 = nI b := M.2.1
theorem mT.b2 (M : mT h b N ns V st wt) : b < 2 := M.2.2.1
theorem mT.N3 (M : mT h b N ns V st wt) : N ≤ 3 := M.2.2.2.2.1
theorem mT.V8 (M : mT h b N ns V st wt) : V ≤ 8 := M.2.2.2.2.2.2.2.2.1
theorem mT.v (M : mT h b N ns V st wt) : ∀ v, v < V → aI h 94 (8 * b + v) = nI (st v) ∧ aI h 95 (8 * b + v) = nI (wt v) ∧ st v < ns ∧ wt v ≤ 9 := M.2.2.2.2.2.2.2.2.2
theorem mT.ns4 (M : mT h b N ns V st wt) : ns ≤ 4 := M.2.2.2.2.2.2.1
theorem s12_nameMany (M : mT h b N ns V st wt) (H : Q (some (.int (nI N))) h) : zC mX12_nameMany [.ref 84] h Q := by
  refine nX12_nameMany _ _ _ (bX12_nameMany_0 _ _ _ ⟨M.l.o, _, M.l.r11, M.l.k11, ?_, ?_⟩)
  · rw [M.b26, M.l.n11]; exact vp_in_nI M.b2 (by decide)
  · rw [M.b26, nI_clamp (by have := M.b2; omega), M.2.2.2.1]; exact H
theorem s12_voterMany (M : mT h b N ns V st wt) (H : Q (some (.int (nI V))) h) : zC mX12_voterMany [.ref 84] h Q := by
  refine nX12_voterMany _ _ _ (bX12_voterMany_0 _ _ _ ⟨M.l.o, _, M.l.r13, M.l.k13, ?_, ?_⟩)
  · rw [M.b26, M.l.n13]; exact vp_in_nI M.b2 (by decide)
  · rw [M.b26, nI_clamp (by have := M.b2; omega), M.2.2.2.2.2.2.2.1]; exact H
/-- a voter more, or none -/
def mE (h : zH) (ns V xv : Nat) (st wt mk : Nat → Nat) : Prop := (xv = 0 ∧ gI h 84 40 = -1) ∨ (xv = 1 ∧ gI h 84 40 = nI (st V) ∧ st V < ns ∧ aI h 106 8 = nI (mk V) ∧ mk V ≤ 3 ∧ wt V = 1)
theorem mE.fr (E : mE h ns V xv st wt mk) (F : fr X Y h h') (hX : 106 ∉ X) (hY : (84, 40) ∉ Y) : mE h' ns V xv st wt mk := by
  unfold mE
  rw [F.gi hY, F.i hX]
  exact E
def mM (h : zH) (V N : Nat) (mk : Nat → Nat) : Prop := ∀ v, v < V → aI h 106 v = nI (mk v) ∧ mk v ≤ N
theorem mM.fr (K : mM h V N mk) (F : fr X Y h h') (hX : 106 ∉ X) : mM h' V N mk := fun v hv => by rw [F.i hX]; exact K v hv
theorem s12_isIn {x : Int32} {a z : Int32} (H1 : (x < a ∨ z < x) → Q (some (.int 0)) h) (H2 : ¬ x < a → ¬ z < x → Q (some (.int 1)) h) : zC mX12_isIn [.int x, .int a, .int z] h Q :=
  nX12_isIn _ _ _ _ _ (bX12_isIn_0 _ _ _ _ _ ⟨fun q => H1 (Or.inl q), fun q => ⟨fun q2 => H1 (Or.inr q2), fun q2 => H2 q q2⟩⟩)
theorem l12_votesOf_40 {own s m : Nat} (M : mT h b N ns V st wt) (K : mM h V N mk) (ho : own < 2 ^ 31) (hm : m ≤ 3) (hs : s ≤ 4) : ∀ (d j a : Nat), j + d = V → Q (some (.int (nI (a + sm (vf st wt mk own s m) j d)))) h → zX mX12_votesOf 40 [.ref 84, .int (nI own), .int (nI m), .int (nI s + (-1)), .int (nI a), .int (nI j), .float 0] [] h Q := by
  have hV := M.V8
  have hN := M.N3
  have hb := M.b2
  intro d
  induction d with
  | zero =>
    intro j a hj H
    refine bX12_votesOf_40 _ _ _ _ _ _ _ _ ⟨M.l.o, s12_voterMany M ⟨_, rfl, br_t (nI_le (by omega) (by omega)) ?_⟩⟩
    simpa [sm] using H
  | succ d ih =>
    intro j a hj H
    obtain ⟨v1, v2, v3, v4⟩ := M.v j (by omega)
    have hns := M.ns4
    have k1 := K j (by omega)
    have ep : (8 : Int32) * gI h 84 26 + nI j = nI (8 * b + j) := by rw [M.b26, ix8]
    have cl : (nI (8 * b + j)).toNatClampNeg = 8 * b + j := nI_clamp (by omega)
    have wti : vp_in (nI (8 * b + j)) (aN h 95) := by rw [M.l.n19]; exact vp_in_nI (by omega) (by decide)
    have sti : vp_in (nI (8 * b + j)) (aN h 94) := by rw [M.l.n18]; exact vp_in_nI (by omega) (by decide)
    have go : ∀ x, vf st wt mk own s m j = x → zX mX12_votesOf 40 [.ref 84, .int (nI own), .int (nI m), .int (nI s + (-1)), .int (nI (a + x)), .int (nI (j + 1)), .float 0] [] h Q := fun x hx => by
      refine ih (j + 1) (a + x) (by omega) ?_
      rw [sm, hx] at H
      rw [show a + x + sm (vf st wt mk own s m) (j + 1) d = a + (x + sm (vf st wt mk own s m) (j + 1) d) by omega]
      exact H
    refine bX12_votesOf_40 _ _ _ _ _ _ _ _ ⟨M.l.o, s12_voterMany M ⟨_, rfl, br_f (nI_ge (by omega) (by omega)) ⟨M.l.o, fun q => ?_, fun q => ⟨_, M.l.r38, M.l.k38, by rw [M.l.n38]; exact vp_in_nI (by omega) (by decide), fun q2 => ⟨fun q3 => ?_, fun q3 => ?_⟩, fun q2 => ?_⟩⟩⟩⟩
    · rw [nI_eq (by omega) ho] at q
      rw [nI_1]
      exact go 0 (by simp [vf, q])
    · rw [nI_dlt (by omega)] at q3
      rw [nI_clamp (by omega), k1.1, nI_eq (by omega) (by omega)] at q2
      rw [nI_eq (by omega) ho] at q
      refine ⟨_, M.l.r19, M.l.k19, by rw [ep]; exact wti, ?_⟩
      rw [ep, cl, v2, nI_add, nI_1]
      exact go _ (by simp [vf, q, q2, q3])
    · rw [nI_dlt (by omega)] at q3
      rw [nI_clamp (by omega), k1.1, nI_eq (by omega) (by omega)] at q2
      rw [nI_eq (by omega) ho] at q
      obtain ⟨t, rfl⟩ : ∃ t, s = t + 1 := ⟨s - 1, by omega⟩
      refine ⟨_, M.l.r18, M.l.k18, by rw [ep]; exact sti, fun q4 => ⟨_, M.l.r19, M.l.k19, by rw [ep]; exact wti, ?_⟩, fun q4 => ?_⟩
      · rw [ep, cl, v1, nI_dn, nI_eq (by omega) (by omega)] at q4
        rw [ep, cl, v2, nI_add, nI_1]
        exact go _ (by simp [vf, q, q2, q4])
      · rw [ep, cl, v1, nI_dn, nI_eq (by omega) (by omega)] at q4
        rw [nI_1]
        exact go 0 (by simp [vf, q2]; intro _ e; exact absurd e.symm q4)
    · rw [nI_clamp (by omega), k1.1, nI_eq (by omega) (by omega)] at q2
      rw [nI_1]
      exact go 0 (by simp [vf, q2])
theorem s12_votesOf {own s m : Nat} (M : mT h b N ns V st wt) (E : mE h ns V xv st wt mk) (K : mM h V N mk) (ho : own < V) (hm : m ≤ 3) (hs : s ≤ 4) (H : Q (some (.int (nI (vts (V + xv) st wt mk own s m)))) h) : zC mX12_votesOf [.ref 84, .int (nI own), .int (nI m), .int (nI s + (-1))] h Q := by
  have hV := M.V8
  have hns := M.ns4
  have L := l12_votesOf_40 (Q := Q) (own := own) (s := s) (m := m) M K (by omega) hm hs V 0
  refine nX12_votesOf _ _ _ _ _ _ (bX12_votesOf_0 _ _ _ _ _ _ ⟨M.l.o, ?_⟩)
  rcases E with ⟨rfl, e⟩ | ⟨rfl, e1, e2, e3, e4, e5⟩
  · exact br_t (by rw [e]; decide +kernel) (L 0 (by omega) (by simpa [vts] using H))
  · have hH : Q (some (.int (nI (vf st wt mk own s m V + sm (vf st wt mk own s m) 0 V)))) h := by
      rw [vts, sm_last, Nat.add_comm, Nat.zero_add] at H; exact H
    refine br_f (by rw [e1]; exact nI_pos (by omega)) ⟨_, M.l.r38, M.l.k38, by rw [M.l.n38]; exact vp_in_nI (n := 8) (by decide) (by decide), fun q => ?_, fun q => ?_⟩
    · have q' : mk V = m := by
        rw [show ((8 : Int32)).toNatClampNeg = 8 from by decide +kernel, e3, nI_eq (by omega) (by omega)] at q
        exact q
      refine ⟨fun q2 => ?_, fun q2 => ⟨fun q3 => ?_, fun q3 => ?_⟩⟩
      · rw [nI_dlt (by omega)] at q2
        exact L 1 (by omega) (by have : vf st wt mk own s m V = 1 := by simp [vf, q', q2, e5]; omega
                                 rw [this] at hH; exact hH)
      · rw [nI_dlt (by omega)] at q2
        obtain ⟨t, rfl⟩ : ∃ t, s = t + 1 := ⟨s - 1, by omega⟩
        rw [e1, nI_dn, nI_eq (by omega) (by omega)] at q3
        exact L 1 (by omega) (by have : vf st wt mk own (t + 1) m V = 1 := by simp [vf, q', q3, e5]; omega
                                 rw [this] at hH; exact hH)
      · rw [nI_dlt (by omega)] at q2
        obtain ⟨t, rfl⟩ : ∃ t, s = t + 1 := ⟨s - 1, by omega⟩
        rw [e1, nI_dn, nI_eq (by omega) (by omega)] at q3
        exact L 0 (by omega) (by have : vf st wt mk own (t + 1) m V = 0 := by simp [vf]; intro _ _ e; exact absurd e.symm q3
                                 rw [this] at hH; exact hH)
    · have q' : ¬ mk V = m := by
        rw [show ((8 : Int32)).toNatClampNeg = 8 from by decide +kernel, e3, nI_eq (by omega) (by omega)] at q
        exact q
      exact L 0 (by omega) (by have : vf st wt mk own s m V = 0 := by simp [vf, q']
                               rw [this] at hH; exact hH)
theorem vts9 (M : mT h b N ns V st wt) (E : mE h ns V xv st wt mk) {own s m : Nat} : vts (V + xv) st wt mk own s m ≤ 81 := by
  have hV := M.V8
  refine Nat.le_trans (vts_le fun v hv => ?_) (Nat.le_trans (Nat.mul_le_mul_left 9 (show V + xv ≤ 9 by rcases E with ⟨rfl, _⟩ | ⟨rfl, _⟩ <;> omega)) (by decide))
  rcases Nat.lt_or_ge v V with z | z
  · exact (M.v v z).2.2.2
  · rcases E with ⟨rfl, _⟩ | ⟨rfl, _, _, _, _, e⟩
    · omega
    · have : v = V := by omega
      rw [this, e]; decide
theorem l12_outmost_m {own s : Nat} (M : mT h b N ns V st wt) (E : mE h ns V xv st wt mk) (K : mM h V N mk) (ho : own < V) (hs : s ≤ 4) : ∀ (d n best top : Nat), n + d = N + 1 → top ≤ 81 → best ≤ N → Q (some (.int (nI (mst (vts (V + xv) st wt mk own s) d n best top)))) h → zX mX12_outmost 9 [.ref 84, .int (nI own), .int 1, .int (nI s + (-1)), .int (nI best), .int (nI top), .int (nI n), .float 0, .float 0] [] h Q := by
  have hV := M.V8
  have hN := M.N3
  intro d
  induction d with
  | zero =>
    intro n best top hn ht hb H
    exact bX12_outmost_9 _ _ _ _ _ _ _ _ _ ⟨M.l.o, s12_nameMany M ⟨_, rfl, br_t (nI_lt (by omega) (by omega)) H⟩⟩
  | succ d ih =>
    intro n best top hn ht hb H
    have h9 := vts9 (own := own) (s := s) (m := n) M E
    refine bX12_outmost_9 _ _ _ _ _ _ _ _ _ ⟨M.l.o, s12_nameMany M ⟨_, rfl, br_f (nI_nlt (by omega) (by omega)) ⟨M.l.o, s12_votesOf M E K ho (by omega) hs ⟨_, rfl, br_f (by decide +kernel) ⟨fun q => ?_, fun q => ?_⟩⟩⟩⟩⟩
    · rw [nI_leI (by omega) (by omega)] at q
      refine bX12_outmost_64 _ _ _ _ _ _ _ _ _ _ _ (br_t rfl ?_)
      rw [nI_1]
      rw [mst, if_pos q] at H
      exact ih _ _ _ (by omega) ht hb H
    · rw [nI_leI (by omega) (by omega)] at q
      refine bX12_outmost_64 _ _ _ _ _ _ _ _ _ _ _ (br_f (by decide +kernel) ?_)
      rw [nI_1]
      rw [mst, if_neg q] at H
      exact ih _ _ _ (by omega) h9 (by omega) H
theorem l12_outmost_f {own s : Nat} (M : mT h b N ns V st wt) (E : mE h ns V xv st wt mk) (K : mM h V N mk) (ho : own < V) (hs : s ≤ 4) : ∀ (d n best top : Nat), n + d = N + 1 → top ≤ 81 → best ≤ N → Q (some (.int (nI (fwt (vts (V + xv) st wt mk own s) d n best top)))) h → zX mX12_outmost 9 [.ref 84, .int (nI own), .int 0, .int (nI s + (-1)), .int (nI best), .int (nI top), .int (nI n), .float 0, .float 0] [] h Q := by
  have hV := M.V8
  have hN := M.N3
  intro d
  induction d with
  | zero =>
    intro n best top hn ht hb H
    exact bX12_outmost_9 _ _ _ _ _ _ _ _ _ ⟨M.l.o, s12_nameMany M ⟨_, rfl, br_t (nI_lt (by omega) (by omega)) H⟩⟩
  | succ d ih =>
    intro n best top hn ht hb H
    have h9 := vts9 (own := own) (s := s) (m := n) M E
    have yes : (best = 0 ∨ ¬ top ≤ vts (V + xv) st wt mk own s n) → zX mX12_outmost 59 [.ref 84, .int (nI own), .int 0, .int (nI s + (-1)), .int (nI best), .int (nI top), .int (nI n), .int (nI (vts (V + xv) st wt mk own s n)), .float 0] [] h Q := fun q => by
      refine bX12_outmost_59 _ _ _ _ _ _ _ _ _ _ (bX12_outmost_64 _ _ _ _ _ _ _ _ _ _ _ (br_f (by decide +kernel) ?_))
      rw [nI_1]
      refine ih _ _ _ (by omega) h9 (by omega) ?_
      rw [fwt] at H
      by_cases z : best = 0
      · rw [if_pos z] at H; exact H
      · rw [if_neg z, if_neg (q.resolve_left z)] at H; exact H
    refine bX12_outmost_9 _ _ _ _ _ _ _ _ _ ⟨M.l.o, s12_nameMany M ⟨_, rfl, br_f (nI_nlt (by omega) (by omega)) ⟨M.l.o, s12_votesOf M E K ho (by omega) hs ⟨_, rfl, br_t rfl ⟨fun q => ?_, fun q => ⟨fun q2 => ?_, fun q2 => ?_⟩⟩⟩⟩⟩⟩
    · rw [← nI_0, nI_eq (by omega) (by omega)] at q
      exact yes (Or.inl q)
    · rw [← nI_0, nI_eq (by omega) (by omega)] at q
      rw [nI_leI (by omega) (by omega)] at q2
      refine bX12_outmost_64 _ _ _ _ _ _ _ _ _ _ _ (br_t rfl ?_)
      rw [nI_1]
      rw [fwt, if_neg q, if_pos q2] at H
      exact ih _ _ _ (by omega) ht hb H
    · rw [nI_leI (by omega) (by omega)] at q2
      exact yes (Or.inr q2)
theorem s12_outmost_m {own s : Nat} (M : mT h b N ns V st wt) (E : mE h ns V xv st wt mk) (K : mM h V N mk) (ho : own < V) (hs : s ≤ 4) (H : Q (some (.int (nI (mst (vts (V + xv) st wt mk own s) N 1 0 0)))) h) : zC mX12_outmost [.ref 84, .int (nI own), .int 1, .int (nI s + (-1))] h Q :=
  nX12_outmost _ _ _ _ _ _ (bX12_outmost_0 _ _ _ _ _ _ (l12_outmost_m M E K ho hs N 1 0 0 (by omega) (by omega) (by omega) H))
theorem s12_outmost_f {own s : Nat} (M : mT h b N ns V st wt) (E : mE h ns V xv st wt mk) (K : mM h V N mk) (ho : own < V) (hs : s ≤ 4) (H : Q (some (.int (nI (fwt (vts (V + xv) st wt mk own s) N 1 0 0)))) h) : zC mX12_outmost [.ref 84, .int (nI own), .int 0, .int (nI s + (-1))] h Q :=
  nX12_outmost _ _ _ _ _ _ (bX12_outmost_0 _ _ _ _ _ _ (l12_outmost_f M E K ho hs N 1 0 0 (by omega) (by omega) (by omega) H))
end

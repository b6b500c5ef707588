/-! ===== the class: room for the lists ===== -/
section
variable {h h' : zH} {t N V : Nat} {st wt mk : Nat → Nat} {Q : Option Value → zH → Prop} {X : List Nat} {Y : List (Nat × Nat)} {f : (Nat → Nat) → Nat → Nat}
theorem mx2 {a n : Nat} (ha : a < 2 ^ 30) (hn : n < 2 ^ 29) : (if nI a < (2 : Int32) * nI n then (2 : Int32) * nI n else nI a) = nI (max a (2 * n)) := by
  have e : (2 : Int32) * nI n = nI (2 * n) := nI_mul 2 n
  rw [e]
  by_cases z : a < 2 * n
  · rw [if_pos ((nI_ltI (by omega) (by omega)).mpr z), Nat.max_eq_right (by omega)]
  · rw [if_neg (fun q => z ((nI_ltI (by omega) (by omega)).mp q)), Nat.max_eq_left (by omega)]
theorem slN_le {n : Nat} : (slN N V f n).length ≤ n := flt_le _ n
theorem nlN_le {n : Nat} : (nlN N V f n).length ≤ n := flt_le _ n
/-- a list's row: as it was, or a new one that has room -/
def rmK (n0 : Nat) (h h' : zH) (a a' k : Nat) : Prop := (a' = a ∨ n0 ≤ a') ∧ iK h' a' 0 ∧ k ≤ aN h' a' ∧ aN h' a' ≤ 131072 ∧ aN h a ≤ aN h' a'
theorem l5_room103 {nc k : Nat} (o12 : oK h 12 5) (r4 : gR h 12 4 = some nc) (k4 : iK h nc 0) (b4 : aN h nc ≤ 131072) (hk : k ≤ 65536)
    (H : ∀ h' nc', fz h.1 [] [(12, 4)] h h' → gR h' 12 4 = some nc' → rmK h.1 h h' nc nc' k → h'.1 ≤ h.1 + 1 → h'.2.1 + 2 * aN h nc ≤ h.2.1 + 2 * aN h' nc' → Q none h') : zX mX5_makeRoom 103 [.ref 12, .float 0, .float 0, .float 0, .int (nI k), .float 0, .float 0] [] h Q := by
  refine bX5_makeRoom_103 _ _ _ _ ⟨o12, _, r4, k4, fun q => ?_, fun q => ?_⟩
  · rw [nI_leI (by omega) (by omega)] at q
    exact H h nc (fz.rf (Nat.le_refl _)) r4 ⟨Or.inl rfl, k4, q, b4, Nat.le_refl _⟩ (by omega) (by omega)
  · rw [nI_leI (by omega) (by omega)] at q
    rw [mx2 (by omega) (by omega), nI_clamp (by omega)]
    refine ⟨nI_pos (by omega), by omega, fun h7 e7 h11 e11 => ?_⟩
    have o7 : oK h7 12 5 := by rw [e7]; exact oK_zn o12
    have F7 : fz h.1 [] [(12, 4)] h h7 := by rw [e7]; exact fz_zn (Nat.le_refl _)
    have F11' : fr [] [(12, 4)] h7 h11 := by rw [e11]; exact fr_pF (by simp) o7 rfl rfl
    have l7 : h7.1 = h.1 + 1 := by rw [e7]; rfl
    have s7 : h7.2.1 = h.2.1 + max k (2 * aN h nc) := by rw [e7]; rfl
    have F11 := F7.tr (F11'.z (n := h.1) (by omega))
    have e1 : h11.1 = h.1 + 1 := F11'.1.1.trans l7
    have e2 : h11.2.1 = h.2.1 + max k (2 * aN h nc) := F11'.1.2.trans s7
    have n11 : aN h11 h.1 = max k (2 * aN h nc) := by rw [F11'.n, e7]; exact zn_N
    have k11 : iK h11 h.1 0 := F11'.ik (by rw [e7]; exact iK_new)
    refine H h11 h.1 F11 (by rw [e11]; exact gR_pF_s o7 (by decide)) ⟨Or.inr (Nat.le_refl _), k11, by rw [n11]; omega, by rw [n11]; omega, by rw [n11]; omega⟩ (by omega) ?_
    rw [e2, n11]; omega
theorem s5_makeRoom {tc nc sc : Nat} (T : cT h t N V st wt) (o12 : oK h 12 5) (r2 : gR h 12 2 = some sc) (r3 : gR h 12 3 = some tc) (r4 : gR h 12 4 = some nc) (k2 : iK h sc 0) (k3 : iK h tc 0) (k4 : iK h nc 0) (hsz : 4 ^ V ≤ aN h sc) (hsz2 : aN h sc ≤ 65536) (b3 : aN h tc ≤ 131072) (b4 : aN h nc ≤ 131072) (d34 : tc ≠ nc)
    (D : sdR h sc N V (fun r => f (dg 4 V r)))
    (H : ∀ h' tc' nc', fz h.1 [] [(12, 3), (12, 4)] h h' → gR h' 12 3 = some tc' → gR h' 12 4 = some nc' → rmK h.1 h h' tc tc' (slN N V f (4 ^ V)).length → rmK h.1 h h' nc nc' (nlN N V f (4 ^ V)).length → tc' ≠ nc' → h'.1 ≤ h.1 + 2 → h'.2.1 + 2 * (aN h tc + aN h nc) ≤ h.2.1 + 2 * (aN h' tc' + aN h' nc') → Q none h') : zC mX5_makeRoom [.ref 12, .int (nI (4 ^ V)), .ref t] h Q := by
  have hV := T.V8
  have hN := T.N3
  have p4 : 4 ^ V ≤ 65536 := Nat.le_trans (Nat.pow_le_pow_right (by decide) hV) (by decide)
  have main : ∀ (k r : Nat), r + k = 4 ^ V → zX mX5_makeRoom 8 [.ref 12, .int (nI (4 ^ V)), .ref t, .int (nI (slN N V f r).length), .int (nI (nlN N V f r).length), .int (nI r), .float 0] [] h Q := by
    intro k
    induction k with
    | zero =>
      intro r hr
      have : r = 4 ^ V := by omega
      subst this
      have ls := slN_le (N := N) (V := V) (f := f) (n := 4 ^ V)
      have ln := nlN_le (N := N) (V := V) (f := f) (n := 4 ^ V)
      refine bX5_makeRoom_8 _ _ _ _ _ _ _ _ (br_t (nI_le (Nat.le_refl _) (by omega)) ⟨o12, _, r3, k3, fun q => ?_, fun q => ?_⟩)
      · rw [nI_leI (by omega) (by omega)] at q
        exact l5_room103 o12 r4 k4 b4 (by omega) (fun h' nc' F e4 R l1 l2 => H h' tc nc' (F.mo (Nat.le_refl _) (fun _ _ z => z) (fun _ _ z => by simp at z; simp [z])) (by rw [F.gr (by have := o12.1; omega) (by simp)]; exact r3) e4 ⟨Or.inl rfl, F.ik k3, by rw [F.n k3.1]; exact q, by rw [F.n k3.1]; exact b3, by rw [F.n k3.1]; exact Nat.le_refl _⟩ R (by rcases R.1 with z | z; (· rw [z]; exact d34); have := k3.1; omega) (by omega) (by rw [F.n k3.1]; omega))
      · rw [nI_leI (by omega) (by omega)] at q
        rw [mx2 (by omega) (by omega), nI_clamp (by omega)]
        refine ⟨nI_pos (by omega), by omega, fun h7 e7 h11 e11 => ?_⟩
        generalize (slN N V f (4 ^ V)).length = ks at *
        have o7 : oK h7 12 5 := by rw [e7]; exact oK_zn o12
        have F7 : fz h.1 [] [(12, 3), (12, 4)] h h7 := by rw [e7]; exact fz_zn (Nat.le_refl _)
        have F11' : fr [] [(12, 3), (12, 4)] h7 h11 := by rw [e11]; exact fr_pF (by simp) o7 rfl rfl
        have l7 : h7.1 = h.1 + 1 := by rw [e7]; rfl
        have s7 : h7.2.1 = h.2.1 + max ks (2 * aN h tc) := by rw [e7]; rfl
        have F11 := F7.tr (F11'.z (n := h.1) (by omega))
        have e1 : h11.1 = h.1 + 1 := F11'.1.1.trans l7
        have e2 : h11.2.1 = h.2.1 + max ks (2 * aN h tc) := F11'.1.2.trans s7
        have n11 : aN h11 h.1 = max ks (2 * aN h tc) := by rw [F11'.n, e7]; exact zn_N
        have k11 : iK h11 h.1 0 := F11'.ik (by rw [e7]; exact iK_new)
        have r31 : gR h11 12 3 = some h.1 := by rw [e11]; exact gR_pF_s o7 (by decide)
        have r41 : gR h11 12 4 = some nc := by rw [e11, gR_pF_n (Or.inr (by decide)), e7, gR_zn (by have := o12.1; omega)]; exact r4
        have o11 := F11.o o12
        refine l5_room103 o11 r41 (F11.ik k4) (by rw [F11.n k4.1]; exact b4) (by omega) (fun h' nc' F e4 R m1 m2 => ?_)
        have n1 : aN h' h.1 = max ks (2 * aN h tc) := by rw [F.n (by omega)]; exact n11
        rw [F11.n k4.1] at m2
        refine H h' h.1 nc' (F11.tr (F.mo (by omega) (fun _ _ z => z) (fun _ _ z => by simp at z; simp [z]))) (by rw [F.gr (by have := o11.1; omega) (by simp)]; exact r31) e4 ⟨Or.inr (Nat.le_refl _), F.ik k11, by rw [n1]; omega, by rw [n1]; omega, by rw [n1]; omega⟩ ⟨?_, R.2.1, R.2.2.1, R.2.2.2.1, ?_⟩ ?_ (by omega) (by rw [n1]; omega)
        · rcases R.1 with z | z
          · exact Or.inl z
          · exact Or.inr (by omega)
        · have := R.2.2.2.2; rwa [F11.n k4.1] at this
        · rcases R.1 with z | z
          · have := k4.1; omega
          · omega
    | succ k ih =>
      intro r hr
      have ls := slN_le (N := N) (V := V) (f := f) (n := r)
      have ln := nlN_le (N := N) (V := V) (f := f) (n := r)
      refine bX5_makeRoom_8 _ _ _ _ _ _ _ _ (br_f (nI_ge (by omega) (by omega)) ⟨T.o, s10_canBe T (by omega) (fun hc => ⟨_, rfl, br_f (by decide +kernel) ?_⟩) (fun hc => ⟨_, rfl, br_t rfl ?_⟩)⟩)
      · have hcb : cbB N V r = true := cbB_iff.mpr hc
        have dr := D r (by omega) hcb
        generalize hb : (fun v => if dg 4 V r v = f (dg 4 V r) v then 0 else 1) = b
        have b2 : ∀ v, v < V → b v < 2 := fun v _ => by rw [← hb]; show (if _ then _ else _) < 2; split <;> omega
        have ebr : en 2 V b = brV V (f (dg 4 V r)) (dg 4 V r) := by rw [← hb]; rfl
        refine ⟨o12, _, r2, s11_atN k2 rfl (by omega) (by omega) ⟨_, rfl, ?_⟩⟩
        rw [dr.1]
        refine s5_brokenBits (by omega) hV dr.2 ⟨_, rfl, ?_⟩
        rw [hb]
        refine s6_bitCount2 hV b2 ⟨_, rfl, ?_⟩
        rw [ebr]
        have hp31 : pcF (brV V (f (dg 4 V r)) (dg 4 V r)) ≤ 31 := by
          refine Nat.le_trans (sm_le _ 1 31 0 (fun i _ _ => ?_)) (by decide)
          have := Nat.mod_lt (brV V (f (dg 4 V r)) (dg 4 V r) / 2 ^ i) (by decide : 2 > 0)
          omega
        have es : slN N V f (r + 1) = slN N V f r ++ (if stB V (f (dg 4 V r)) (dg 4 V r) then [r] else []) := by
          rw [slN, filter_range_s, hcb, Bool.true_and]; rfl
        have en' : nlN N V f (r + 1) = nlN N V f r ++ (if nrB V (f (dg 4 V r)) (dg 4 V r) then [r] else []) := by
          rw [nlN, filter_range_s, hcb, Bool.true_and]; rfl
        have hs0 : pcF (brV V (f (dg 4 V r)) (dg 4 V r)) = 0 ↔ stB V (f (dg 4 V r)) (dg 4 V r) = true := by
          have br31 : brV V (f (dg 4 V r)) (dg 4 V r) < 2 ^ 31 := by
            rw [← ebr]; exact Nat.lt_of_lt_of_le (en_lt b2) (Nat.pow_le_pow_right (by decide) (by omega : V ≤ 31))
          rw [pcF_e0 br31, brV, en_e0 (by decide), stB_iff]
          constructor
          · intro z v hv
            have := z v hv
            by_cases y : dg 4 V r v = f (dg 4 V r) v
            · exact y.symm
            · simp [y] at this
          · intro z v hv
            simp [z v hv]
        have go53 : ∀ s0 : Nat, s0 = (if stB V (f (dg 4 V r)) (dg 4 V r) then 1 else 0) → zX mX5_makeRoom 53 [.ref 12, .int (nI (4 ^ V)), .ref t, .float 0, .int (nI (nlN N V f r).length), .int (nI r), .int (nI (pcF (brV V (f (dg 4 V r)) (dg 4 V r))))] [.int (nI s0), .int (nI (slN N V f r).length)] h Q := fun s0 hs => by
          have e5 : (slN N V f r).length + s0 = (slN N V f (r + 1)).length := by
            rw [es, hs]; split <;> simp
          refine bX5_makeRoom_53 _ _ _ _ _ _ _ _ _ _ ⟨fun q => ?_, fun q => ?_⟩
          · rw [nI_lit 3, nI_ltI (by decide) (by omega)] at q
            have q' : ¬ nrB V (f (dg 4 V r)) (dg 4 V r) = true := by simp [nrB]; omega
            rw [if_neg q', List.append_nil] at en'
            rw [nI_add, e5, nI_lit 0, nI_add, Nat.add_zero, nI_1, ← en']
            exact ih (r + 1) (by omega)
          · rw [nI_lit 3, nI_ltI (by decide) (by omega)] at q
            have q' : nrB V (f (dg 4 V r)) (dg 4 V r) = true := by simp [nrB]; omega
            rw [if_pos q'] at en'
            have e6 : (nlN N V f r).length + 1 = (nlN N V f (r + 1)).length := by rw [en']; simp
            rw [nI_add, e5, nI_lit 1, nI_add, e6, nI_add]
            exact ih (r + 1) (by omega)
        refine ⟨fun q => ?_, fun q => ?_⟩
        · rw [← nI_0, nI_eq (by omega) (by decide), hs0] at q
          exact go53 1 (by rw [if_pos q])
        · rw [← nI_0, nI_eq (by omega) (by decide), hs0] at q
          exact go53 0 (by rw [if_neg q])
      · have hcb : ¬ cbB N V r = true := fun z => hc (cbB_iff.mp z)
        have es : slN N V f (r + 1) = slN N V f r := by
          rw [slN, filter_range_s]; simp [hcb, slN]
        have en' : nlN N V f (r + 1) = nlN N V f r := by
          rw [nlN, filter_range_s]; simp [hcb, nlN]
        rw [nI_1, ← es, ← en']
        exact ih (r + 1) (by omega)
  exact nX5_makeRoom _ _ _ _ _ (bX5_makeRoom_0 _ _ _ _ _ (main (4 ^ V) 0 (by omega)))
end

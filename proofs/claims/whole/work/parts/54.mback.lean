/-! ===== the reference: image, back ===== -/
section
variable {HL : List zHd} {h h' h2 : zH} {b N ns V xv : Nat} {st wt mm : Nat → Nat} {Q : Option Value → zH → Prop} {X : List Nat} {Y : List (Nat × Nat)} {f : (Nat → Nat) → Nat → Nat} {cn cu : Nat → Nat} {cd : Nat → Nat → Nat × Nat × Nat}
def XK : List Nat := [97, 98, 99, 100, 101, 111, 116, 117, 118, 119]
theorem l12_back_84 {n j : Nat} (hj : j < 3) (hn : n ≤ 20) (H : ∀ h', mLay h' → gI h' 84 54 = nI n → fr XK [] h h' → (∀ k, k < 4 → ∀ i, i < n → aI h' (116 + k) i = aI h (122 + k) (20 * j + i)) → (∀ a, a < 116 → aI h' a = aI h a) → zC mX12_layRows [.ref 84] h' (fun r0 h3 => r0 = none ∧ (oK h3 84 12 ∧ (Q (some (.int (gI h3 84 54))) h3)))) :
    ∀ (d i : Nat) (h0 : zH), mLay h0 → gI h0 84 54 = nI n → i + d = n → fr XK [] h h0 → (∀ k, k < 4 → ∀ i', i' < i → aI h0 (116 + k) i' = aI h (122 + k) (20 * j + i')) → (∀ a, a < 116 → aI h0 a = aI h a) → zX mX12_back 84 [.ref 84, .int (nI j), .int (nI i)] [] h0 Q := by
  intro d
  induction d with
  | zero =>
    intro i h0 L0 g hi F A C
    have : i = n := by omega
    subst this
    exact bX12_back_84 _ _ _ _ _ ⟨L0.o, br_t (by rw [g]; exact nI_le (Nat.le_refl _) (by omega)) (H h0 L0 g F A C)⟩
  | succ d ih =>
    intro i h0 L0 g hi F A C
    have e1 : (20 : Int32) * nI j + nI i = nI (20 * j + i) := by rw [nI_lit 20, nI_mul, nI_add]
    have c1 : (nI (20 * j + i)).toNatClampNeg = 20 * j + i := nI_clamp (by omega)
    have ci : (nI i).toNatClampNeg = i := nI_clamp (by omega)
    have vi : ∀ (h0 : zH) (a x m : Nat), aN h0 a = m → x < m → m < 2 ^ 31 → vp_in (nI x) (aN h0 a) := fun h0 a x m e h1 h2 => by rw [e]; exact vp_in_nI h1 h2
    refine bX12_back_84 _ _ _ _ _ ⟨L0.o, br_f (by rw [g]; exact nI_ge (by omega) (by omega)) ?_⟩
    rw [e1, c1, ci]
    refine ⟨_, L0.r50, _, L0.r58, L0.k58, vi _ _ _ _ L0.n58 (by omega) (by decide), L0.k50, vi _ _ _ _ L0.n50 (by omega) (by decide), fun h9 e9 => ?_⟩
    have F9 : fr XK [] h0 h9 := by rw [e9]; exact fr_pI (by decide)
    have L9 := L0.fr F9 (by decide)
    refine ⟨_, L9.r51, _, L9.r59, L9.k59, vi _ _ _ _ L9.n59 (by omega) (by decide), L9.k51, vi _ _ _ _ L9.n51 (by omega) (by decide), fun h19 e19 => ?_⟩
    have F19 : fr XK [] h9 h19 := by rw [e19]; exact fr_pI (by decide)
    have L19 := L9.fr F19 (by decide)
    refine ⟨_, L19.r52, _, L19.r60, L19.k60, vi _ _ _ _ L19.n60 (by omega) (by decide), L19.k52, vi _ _ _ _ L19.n52 (by omega) (by decide), fun h31 e31 => ?_⟩
    have F31 : fr XK [] h19 h31 := by rw [e31]; exact fr_pI (by decide)
    have L31 := L19.fr F31 (by decide)
    refine ⟨_, L31.r53, _, L31.r61, L31.k61, vi _ _ _ _ L31.n61 (by omega) (by decide), L31.k53, vi _ _ _ _ L31.n53 (by omega) (by decide), fun h45 e45 => ?_⟩
    have F45 : fr XK [] h31 h45 := by rw [e45]; exact fr_pI (by decide)
    have C' : ∀ a, a < 116 → aI h45 a = aI h0 a := fun a ha => by
      funext k
      rw [e45, aI_pI_n (Or.inl (by omega)), e31, aI_pI_n (Or.inl (by omega)), e19, aI_pI_n (Or.inl (by omega)), e9, aI_pI_n (Or.inl (by omega))]
    have x : ∀ k, k < 4 → ∀ m, aI h45 (116 + k) m = if m = i then aI h0 (122 + k) (20 * j + i) else aI h0 (116 + k) m := fun k hk m => by
      have : k = 0 ∨ k = 1 ∨ k = 2 ∨ k = 3 := by omega
      rcases this with rfl | rfl | rfl | rfl
      · rw [e45, aI_pI_n (Or.inl (by decide)), e31, aI_pI_n (Or.inl (by decide)), e19, aI_pI_n (Or.inl (by decide)), e9, aI_pI ⟨_, L0.k50⟩]; simp
      · rw [e45, aI_pI_n (Or.inl (by decide)), e31, aI_pI_n (Or.inl (by decide)), e19, aI_pI ⟨_, L9.k51⟩, e9, aI_pI_n (Or.inl (by decide)), aI_pI_n (Or.inl (by decide))]; simp
      · rw [e45, aI_pI_n (Or.inl (by decide)), e31, aI_pI ⟨_, L19.k52⟩, e19, aI_pI_n (Or.inl (by decide)), aI_pI_n (Or.inl (by decide)), e9, aI_pI_n (Or.inl (by decide)), aI_pI_n (Or.inl (by decide))]; simp
      · rw [e45, aI_pI ⟨_, L31.k53⟩, e31, aI_pI_n (Or.inl (by decide)), aI_pI_n (Or.inl (by decide)), e19, aI_pI_n (Or.inl (by decide)), aI_pI_n (Or.inl (by decide)), e9, aI_pI_n (Or.inl (by decide)), aI_pI_n (Or.inl (by decide))]; simp
    have FF := ((F9.tr F19).tr F31).tr F45
    rw [nI_1]
    refine ih (i + 1) h45 (L31.fr F45 (by decide)) (by rw [FF.gi (by simp)]; exact g) (by omega) (F.tr FF) (fun k hk i' hi' => ?_) (fun a ha => (C' a ha).trans (C a ha))
    rw [x k hk]
    by_cases z : i' = i
    · subst z; rw [if_pos rfl, F.i (by simp [XK]; omega)]
    · rw [if_neg z]; exact A k hk i' (by omega)
/-- hands, from a place on -/
def hdA (h : zH) (a off : Nat) (HL : List zHd) : Prop := ∀ n q, HL[n]? = some q → aI h a (off + n) = nI q.1 ∧ aI h (a + 1) (off + n) = nI q.2.1 ∧ aI h (a + 2) (off + n) = nI q.2.2.1 ∧ aI h (a + 3) (off + n) = oI q.2.2.2
theorem mHL.hd {HL : List zHd} (A : mHL h HL) : hdA h 116 0 HL := fun n q hq => by have := A.2 n q hq; rw [Nat.zero_add]; exact this
/-- box j: none, or marks, hands; its ballots -/
def mBX (h : zH) (V N j : Nat) (q : Option ((Nat → Nat) × List zHd)) (cn : Nat → Nat) (cd : Nat → Nat → Nat × Nat × Nat) (cu : Nat → Nat) : Prop := match q with
  | none => aI h 120 j = -1
  | some q => aI h 120 j = nI q.2.length ∧ (∀ v, v < V → aI h 121 (8 * j + v) = nI (q.1 v) ∧ q.1 v ≤ N) ∧ hdA h 122 (20 * j) q.2 ∧ hdO V N q.2 ∧ ∀ v, v < 8 → mBl h (8 * (2 + j) + v) (cn v) (cd v) (cu v)
theorem s12_image (M : mT h b N ns V st wt) (A : mHL h HL) (O : hdO V N HL) (Hm : mH h V N mm) (Bl : ∀ v, v < 8 → mBl h (8 * b + v) (cn v) (cd v) (cu v)) {x : Int32}
    (H1 : ∀ j h', x = nI j → j < 3 → fr XI [] h h' → mBX h' V N j (some (mm, HL)) cn cd cu → (∀ p, p / 8 ≠ 2 + j → slE h h' p) → (∀ k, k ≠ j → aI h' 120 k = aI h 120 k) → (∀ i, i / 8 ≠ j → aI h' 121 i = aI h 121 i) → (∀ k, k < 4 → ∀ i, i / 20 ≠ j → aI h' (122 + k) i = aI h (122 + k) i) → Q (some (.int (nI HL.length))) h')
    (H0 : ¬ (x = 0 ∨ x = 1 ∨ x = 2) → Q (some (.int (-1))) h) : zC mX12_image [.ref 84, .int x] h Q := by
  have hV := M.V8
  have hN := M.N3
  have hb := M.b2
  have h20 := O.1
  have vi : ∀ (h0 : zH) (a x m : Nat), aN h0 a = m → x < m → m < 2 ^ 31 → vp_in (nI x) (aN h0 a) := fun h0 a x m e h1 h2 => by rw [e]; exact vp_in_nI h1 h2
  refine nX12_image _ _ _ _ (bX12_image_0 _ _ _ _ (s12_isIn (fun q => ⟨_, rfl, br_t rfl (H0 (fun z => ?_))⟩) (fun q1 q2 => ⟨_, rfl, br_f (by decide +kernel) ⟨M.l.o, _, M.l.r56, M.l.k56, ?_⟩⟩)))
  · rcases z with z | z | z <;> rw [z] at q <;> exact absurd q (by decide)
  obtain ⟨j, m1, rfl⟩ := nI_of q1
  rw [nI_lit 2, nI_ltI (by decide) m1] at q2
  have hj : j < 3 := by omega
  refine ⟨vi _ _ _ _ M.l.n56 hj (by decide), fun h8 e8 => ?_⟩
  rw [nI_clamp (by omega), A.1] at e8
  have F8 : fr XI [] h h8 := by rw [e8]; exact fr_pI (by decide)
  have a120 : ∀ k, aI h8 120 k = if k = j then nI HL.length else aI h 120 k := fun k => by rw [e8, aI_pI ⟨_, M.l.k56⟩]; simp
  have o8 : ∀ a, a ≠ 120 → aI h8 a = aI h a := fun a ha => by funext i; rw [e8, aI_pI_n (Or.inl ha)]
  have go : ∀ (d v : Nat) (h0 : zH), v + d = 8 → fr XI [] h h0 → (∀ p, p / 8 ≠ 2 + j → slE h h0 p) → (∀ w, w < v → mBl h0 (8 * (2 + j) + w) (cn w) (cd w) (cu w)) → aI h0 120 = aI h8 120 → (∀ w, w < v → aI h0 121 (8 * j + w) = aI h 111 w) → (∀ i, i / 8 ≠ j → aI h0 121 i = aI h 121 i) → (∀ a, 122 ≤ a → aI h0 a = aI h a) → zX mX12_image 23 [.ref 84, .int (nI j), .int (nI v)] [] h0 Q := by
    intro d
    induction d with
    | zero =>
      intro v h0 hv F S B a1 a2 a3 a4
      have : v = 8 := by omega
      subst this
      have M0 := M.fr F (by decide)
      refine bX12_image_23 _ _ _ _ _ (br_t (by decide +kernel) ?_)
      refine l12_image_75 (h := h0) hj h20 (fun h' F' B1 B2 B3 => ?_) HL.length 0 h0 M0.l (by rw [F.gi (by simp)]; exact A.1) (by omega) fr.rf (fun k _ i hi => absurd hi (Nat.not_lt_zero _)) (fun _ _ _ _ => rfl) (fun _ _ => rfl)
      have s' : ∀ p, slE h0 h' p := fun p => ⟨by rw [B3 97 (by decide)], by rw [B3 98 (by decide)], fun i _ => by rw [B3 99 (by decide), B3 100 (by decide), B3 101 (by decide)]; exact ⟨rfl, rfl, rfl⟩⟩
      refine H1 j h' rfl hj (F.tr F') ⟨?_, fun v hv => ?_, fun n q hq => ?_, O, fun v hv => (B v hv).sl (s' _)⟩ (fun p hp => (S p hp).tr (s' p)) (fun k hk => ?_) (fun i hi => ?_) (fun k hk i hi => ?_)
      · rw [B3 120 (by decide), a1, a120, if_pos rfl]
      · rw [B3 121 (by decide), a2 v (by omega)]; exact Hm v hv
      · have hl := (List.getElem?_eq_some_iff.mp hq).1
        have := A.2 n q hq
        have t : ∀ k, k < 4 → aI h' (122 + k) (20 * j + n) = aI h (116 + k) n := fun k hk => by
          rw [B1 k hk n hl]
          have : 116 + k ∉ XI := by simp [XI]; omega
          rw [F.i this]
        rw [t 0 (by decide), t 1 (by decide), t 2 (by decide), t 3 (by decide)]
        exact this
      · rw [B3 120 (by decide), a1, a120, if_neg hk]
      · rw [B3 121 (by decide), a3 i hi]
      · rw [B2 k hk i hi, a4 (122 + k) (by omega)]
    | succ d ih =>
      intro v h0 hv F S B a1 a2 a3 a4
      have M0 := M.fr F (by decide)
      have e1 : (8 : Int32) * nI j + nI v = nI (8 * j + v) := ix8 _ _
      have c1 : (nI (8 * j + v)).toNatClampNeg = 8 * j + v := nI_clamp (by omega)
      have cv : (nI v).toNatClampNeg = v := nI_clamp (by omega)
      refine bX12_image_23 _ _ _ _ _ (br_f (nI_ge (b := 8) (by omega) (by decide)) ⟨M0.l.o, _, M0.l.r57, _, M0.l.r45, M0.l.k45, vi _ _ _ _ M0.l.n45 (by omega) (by decide), M0.l.k57, ?_⟩)
      rw [e1, c1, cv]
      refine ⟨vi _ _ _ _ M0.l.n57 (by omega) (by decide), fun h9 e9 => ?_⟩
      have F9 : fr XI [] h0 h9 := by rw [e9]; exact fr_pI (by decide)
      have M9 := M0.fr F9 (by decide)
      have e2 : (8 : Int32) * ((2 : Int32) + nI j) + nI v = nI (8 * (2 + j) + v) := by rw [nI_lit 2, nI_add, ix8]
      rw [M9.b26, ix8, e2]
      have s9 : ∀ p, slE h0 h9 p := fun p => ⟨by rw [e9, aI_pI_n (Or.inl (by decide))], by rw [e9, aI_pI_n (Or.inl (by decide))], fun i _ => by rw [e9]; exact ⟨aI_pI_n (Or.inl (by decide)), aI_pI_n (Or.inl (by decide)), aI_pI_n (Or.inl (by decide))⟩⟩
      have bl9 : mBl h9 (8 * b + v) (cn v) (cd v) (cu v) := ((Bl v (by omega)).sl (S _ (by omega))).sl (s9 _)
      refine s12_copyBallot M9.l bl9 (by omega) (by omega) (by omega) (fun h13 F13 B13 S13 => ⟨rfl, ?_⟩)
      have o13 : ∀ a, a ∉ XB → aI h13 a = aI h9 a := fun a ha => F13.i ha
      have x9 : ∀ i, aI h9 121 i = if i = 8 * j + v then aI h0 111 v else aI h0 121 i := fun i => by rw [e9, aI_pI ⟨_, M0.l.k57⟩]; simp
      rw [nI_1]
      refine ih (v + 1) h13 (by omega) ((F.tr F9).tr (F13.mo (by decide) (by simp))) (fun p hp => ((S p hp).tr (s9 p)).tr (S13 p (by omega))) (fun w hw => ?_) ?_ (fun w hw => ?_) (fun i hi => ?_) (fun a ha => ?_)
      · by_cases z : w = v
        · subst z; exact B13
        · exact ((B w (by omega)).sl (s9 _)).sl (S13 _ (by omega))
      · rw [o13 120 (by decide), ← a1]; funext i; rw [e9, aI_pI_n (Or.inl (by decide))]
      · rw [o13 121 (by decide), x9]
        by_cases z : w = v
        · subst z; rw [if_pos rfl, F.i (by decide)]
        · rw [if_neg (by omega)]; exact a2 w (by omega)
      · rw [o13 121 (by decide), x9, if_neg (by omega)]; exact a3 i hi
      · have : a ∉ XB := by simp [XB]; omega
        rw [o13 a this, ← a4 a ha]; funext i; rw [e9, aI_pI_n (Or.inl (by omega))]
  exact go 8 0 h8 rfl F8 (fun p _ => ⟨by rw [o8 97 (by decide)], by rw [o8 98 (by decide)], fun i _ => by rw [o8 99 (by decide), o8 100 (by decide), o8 101 (by decide)]; exact ⟨rfl, rfl, rfl⟩⟩) (fun w hw => absurd hw (Nat.not_lt_zero _)) rfl (fun w hw => absurd hw (Nat.not_lt_zero _)) (fun i _ => by rw [o8 121 (by decide)]) (fun a ha => o8 a (by omega))
end

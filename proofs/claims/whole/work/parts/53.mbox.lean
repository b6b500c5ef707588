/-! ===== the reference: ballots copied, boxes ===== -/
section
variable {h h' h2 : zH} {b N ns V xv : Nat} {st wt mm : Nat → Nat} {Q : Option Value → zH → Prop} {X : List Nat} {Y : List (Nat × Nat)} {f : (Nat → Nat) → Nat → Nat} {cn cu : Nat → Nat} {cd : Nat → Nat → Nat × Nat × Nat}
/-- slot p holds a ballot and its units -/
def mBl (h : zH) (p n : Nat) (c : Nat → Nat × Nat × Nat) (u : Nat) : Prop := mC h p n c ∧ aI h 98 p = nI u
/-- slot p stays -/
def slE (h h' : zH) (p : Nat) : Prop := aI h' 97 p = aI h 97 p ∧ aI h' 98 p = aI h 98 p ∧ ∀ i, i < 640 → aI h' 99 (640 * p + i) = aI h 99 (640 * p + i) ∧ aI h' 100 (640 * p + i) = aI h 100 (640 * p + i) ∧ aI h' 101 (640 * p + i) = aI h 101 (640 * p + i)
theorem slE.rf {p : Nat} : slE h h p := ⟨rfl, rfl, fun _ _ => ⟨rfl, rfl, rfl⟩⟩
theorem slE.tr {p : Nat} (a : slE h h' p) (c : slE h' h2 p) : slE h h2 p := ⟨c.1.trans a.1, c.2.1.trans a.2.1, fun i hi => ⟨(c.2.2 i hi).1.trans (a.2.2 i hi).1, (c.2.2 i hi).2.1.trans (a.2.2 i hi).2.1, (c.2.2 i hi).2.2.trans (a.2.2 i hi).2.2⟩⟩
theorem slE.of {p : Nat} (F : fr X Y h h') (hX : [97, 98, 99, 100, 101].all (fun k => !(X.contains k)) = true) : slE h h' p := by
  simp only [List.all_cons, List.all_nil, and_true, Bool.and_eq_true] at hX
  obtain ⟨c1, c2, c3, c4, c5⟩ := hX
  exact ⟨by rw [F.i (ni_of c1)], by rw [F.i (ni_of c2)], fun i _ => ⟨by rw [F.i (ni_of c3)], by rw [F.i (ni_of c4)], by rw [F.i (ni_of c5)]⟩⟩
theorem mBl.sl {p n u : Nat} {c : Nat → Nat × Nat × Nat} (B : mBl h p n c u) (E : slE h h' p) : mBl h' p n c u := by
  obtain ⟨⟨b1, b2, b3⟩, b4⟩ := B
  refine ⟨⟨by rw [E.1]; exact b1, b2, fun i hi => ?_⟩, by rw [E.2.1]; exact b4⟩
  have := E.2.2 i (by omega)
  rw [this.1, this.2.1, this.2.2]
  exact b3 i hi
def XB : List Nat := [97, 98, 99, 100, 101]
theorem s12_copyBallot {p q n u : Nat} {c : Nat → Nat × Nat × Nat} (L : mLay h) (B : mBl h p n c u) (hp : p < 48) (hq : q < 48) (hpq : p ≠ q) (H : ∀ h', fr XB [] h h' → mBl h' q n c u → (∀ p', p' ≠ q → slE h h' p') → Q none h') : zC mX12_copyBallot [.ref 84, .int (nI p), .int (nI q)] h Q := by
  obtain ⟨⟨b1, b2, b3⟩, b4⟩ := B
  have cp : (nI p).toNatClampNeg = p := nI_clamp (by omega)
  have cq : (nI q).toNatClampNeg = q := nI_clamp (by omega)
  have vi : ∀ (h0 : zH) (a x m : Nat), aN h0 a = m → x < m → m < 2 ^ 31 → vp_in (nI x) (aN h0 a) := fun h0 a x m e h1 h2 => by rw [e]; exact vp_in_nI h1 h2
  have lay : ∀ h0, fr XB [] h h0 → mLay h0 := fun h0 F => L.fr F (by decide)
  refine nX12_copyBallot _ _ _ _ _ (bX12_copyBallot_0 _ _ _ _ _ ⟨L.o, _, L.r21, L.k21, vi _ _ _ _ L.n21 hp (by decide), vi _ _ _ _ L.n21 hq (by decide), fun h6 e6 => ?_⟩)
  rw [cp, cq] at e6
  have F6 : fr XB [] h h6 := by rw [e6]; exact fr_pI (by decide)
  have L6 := lay h6 F6
  refine ⟨_, L6.r22, L6.k22, vi _ _ _ _ L6.n22 hp (by decide), vi _ _ _ _ L6.n22 hq (by decide), fun h13 e13 => ?_⟩
  rw [cp, cq] at e13
  have F13 : fr XB [] h6 h13 := by rw [e13]; exact fr_pI (by decide)
  have FF := F6.tr F13
  have a97 : aI h13 97 p = nI n := by rw [e13, aI_pI_n (Or.inl (by decide)), e6, aI_pI_n (Or.inr hpq)]; exact b1
  have a97q : aI h13 97 q = nI n := by rw [e13, aI_pI_n (Or.inl (by decide)), e6, aI_pI_s ⟨_, L.k21⟩]; exact b1
  have a98q : aI h13 98 q = nI u := by rw [e13, aI_pI_s ⟨_, L6.k22⟩, e6, aI_pI_n (Or.inl (by decide))]; exact b4
  have o13 : ∀ a, a ≠ 97 → a ≠ 98 → aI h13 a = aI h a := fun a z1 z2 => by
    funext i; rw [e13, aI_pI_n (Or.inl z2), e6, aI_pI_n (Or.inl z1)]
  have s13 : ∀ p', p' ≠ q → slE h h13 p' := fun p' hp' => ⟨by rw [e13, aI_pI_n (Or.inl (by decide)), e6, aI_pI_n (Or.inr hp')], by rw [e13, aI_pI_n (Or.inr hp'), e6, aI_pI_n (Or.inl (by decide))], fun i _ => by rw [o13 99 (by decide) (by decide), o13 100 (by decide) (by decide), o13 101 (by decide) (by decide)]; exact ⟨rfl, rfl, rfl⟩⟩
  have go : ∀ (d i : Nat) (h0 : zH), i + d = n → fr XB [] h h0 → aI h0 97 p = nI n → aI h0 97 q = nI n → aI h0 98 q = nI u → (∀ p', p' ≠ q → slE h h0 p') → (∀ k, k < i → opM (aI h0 99 (640 * q + k)) (aI h0 100 (640 * q + k)) (aI h0 101 (640 * q + k)) (c k)) → zX mX12_copyBallot 26 [.ref 84, .int (nI p), .int (nI q), .int (nI i)] [] h0 Q := by
    intro d
    induction d with
    | zero =>
      intro i h0 hi F a1 a2 a3 sl A
      have : i = n := by omega
      subst this
      have L0 := lay h0 F
      refine bX12_copyBallot_26 _ _ _ _ _ _ ⟨L0.o, _, L0.r21, L0.k21, vi _ _ _ _ L0.n21 hp (by decide), br_t ?_ (H h0 F ⟨⟨a2, b2, A⟩, a3⟩ sl)⟩
      rw [cp, a1]; exact nI_le (Nat.le_refl _) (by omega)
    | succ d ih =>
      intro i h0 hi F a1 a2 a3 sl A
      have L0 := lay h0 F
      have i640 : i < 640 := by omega
      have e1 : (640 : Int32) * nI p + nI i = nI (640 * p + i) := ix640 _ _
      have e2 : (640 : Int32) * nI q + nI i = nI (640 * q + i) := ix640 _ _
      have c1 : (nI (640 * p + i)).toNatClampNeg = 640 * p + i := nI_clamp (by omega)
      have c2 : (nI (640 * q + i)).toNatClampNeg = 640 * q + i := nI_clamp (by omega)
      have ne : 640 * p + i ≠ 640 * q + i := by omega
      have sp := (sl p hpq).2.2 i i640
      refine bX12_copyBallot_26 _ _ _ _ _ _ ⟨L0.o, _, L0.r21, L0.k21, vi _ _ _ _ L0.n21 hp (by decide), br_f ?_ ?_⟩
      · rw [cp, a1]; exact nI_ge (by omega) (by omega)
      rw [e1, e2, c1, c2]
      refine ⟨_, L0.r23, L0.k23, vi _ _ _ _ L0.n23 (by omega) (by decide), vi _ _ _ _ L0.n23 (by omega) (by decide), fun h10 e10 => ?_⟩
      have F10 : fr XB [] h0 h10 := by rw [e10]; exact fr_pI (by decide)
      have L10 := L0.fr F10 (by decide)
      refine ⟨_, L10.r24, L10.k24, vi _ _ _ _ L10.n24 (by omega) (by decide), vi _ _ _ _ L10.n24 (by omega) (by decide), fun h18 e18 => ?_⟩
      have F18 : fr XB [] h10 h18 := by rw [e18]; exact fr_pI (by decide)
      have L18 := L10.fr F18 (by decide)
      refine ⟨_, L18.r25, L18.k25, vi _ _ _ _ L18.n25 (by omega) (by decide), vi _ _ _ _ L18.n25 (by omega) (by decide), fun h27 e27 => ?_⟩
      have F27 : fr XB [] h18 h27 := by rw [e27]; exact fr_pI (by decide)
      have x97 : ∀ j, aI h27 97 j = aI h0 97 j := fun j => by rw [e27, aI_pI_n (Or.inl (by decide)), e18, aI_pI_n (Or.inl (by decide)), e10, aI_pI_n (Or.inl (by decide))]
      have x98 : ∀ j, aI h27 98 j = aI h0 98 j := fun j => by rw [e27, aI_pI_n (Or.inl (by decide)), e18, aI_pI_n (Or.inl (by decide)), e10, aI_pI_n (Or.inl (by decide))]
      have x99 : ∀ j, aI h27 99 j = if j = 640 * q + i then aI h0 99 (640 * p + i) else aI h0 99 j := fun j => by
        rw [e27, aI_pI_n (Or.inl (by decide)), e18, aI_pI_n (Or.inl (by decide)), e10, aI_pI ⟨_, L0.k23⟩]
        simp
      have x100 : ∀ j, aI h27 100 j = if j = 640 * q + i then aI h0 100 (640 * p + i) else aI h0 100 j := fun j => by
        rw [e27, aI_pI_n (Or.inl (by decide)), e18, aI_pI ⟨_, L10.k24⟩, e10, aI_pI_n (Or.inl (by decide)), aI_pI_n (Or.inl (by decide))]
        simp
      have x101 : ∀ j, aI h27 101 j = if j = 640 * q + i then aI h0 101 (640 * p + i) else aI h0 101 j := fun j => by
        rw [e27, aI_pI ⟨_, L18.k25⟩, e18, aI_pI_n (Or.inl (by decide)), aI_pI_n (Or.inl (by decide)), e10, aI_pI_n (Or.inl (by decide)), aI_pI_n (Or.inl (by decide))]
        simp
      rw [nI_1]
      refine ih (i + 1) h27 (by omega) (((F.tr F10).tr F18).tr F27) (by rw [x97]; exact a1) (by rw [x97]; exact a2) (by rw [x98]; exact a3) (fun p' hp' => (sl p' hp').tr ⟨x97 _, x98 _, fun k hk => ?_⟩) (fun k hk => ?_)
      · have : 640 * p' + k ≠ 640 * q + i := by omega
        rw [x99, x100, x101, if_neg this, if_neg this, if_neg this]
        exact ⟨rfl, rfl, rfl⟩
      · rw [x99, x100, x101]
        by_cases z : k = i
        · subst z
          rw [if_pos rfl, if_pos rfl, if_pos rfl, sp.1, sp.2.1, sp.2.2]
          exact b3 k (by omega)
        · have : 640 * q + k ≠ 640 * q + i := by omega
          rw [if_neg this, if_neg this, if_neg this]
          exact A k (by omega)
  exact go n 0 h13 (by omega) FF a97 a97q a98q s13 (fun k hk => absurd hk (Nat.not_lt_zero _))
/-- a slot's units, eight together but one -/
theorem s12_unitsBut {s : Nat} {x : Int32} {o : Nat} (L : mLay h) (hs : s < 6) (U : ∀ v, v < 8 → aI h 98 (8 * s + v) = nI (cu v)) (hx : ∀ v, v < 8 → (nI v = x ↔ v = o)) (H : Q (some (.int (nI (sm (fun v => if v = o then 0 else cu v) 0 8)))) h) : zC mX12_unitsBut [.ref 84, .int (nI s), .int x] h Q := by
  have go : ∀ (d j : Nat), j + d = 8 → zX mX12_unitsBut 5 [.ref 84, .int (nI s), .int x, .int (nI (sm (fun v => if v = o then 0 else cu v) 0 j)), .int (nI j)] [] h Q := by
    intro d
    induction d with
    | zero =>
      intro j hj
      have : j = 8 := by omega
      subst this
      exact bX12_unitsBut_5 _ _ _ _ _ _ _ (br_t (by decide +kernel) H)
    | succ d ih =>
      intro j hj
      have nx := ih (j + 1) (by omega)
      rw [sm_last, Nat.zero_add] at nx
      refine bX12_unitsBut_5 _ _ _ _ _ _ _ (br_f (nI_ge (b := 8) (by omega) (by decide)) ?_)
      rw [hx j (by omega), nI_1]
      refine ⟨fun q => ?_, fun q => ⟨L.o, _, L.r22, L.k22, ?_⟩⟩
      · rw [if_pos q, Nat.add_zero] at nx
        rw [Int32.add_zero]; exact nx
      · rw [if_neg q] at nx
        rw [ix8, nI_clamp (by omega), U j (by omega), nI_add]
        exact ⟨by rw [L.n22]; exact vp_in_nI (by omega) (by decide), nx⟩
  exact nX12_unitsBut _ _ _ _ _ (bX12_unitsBut_0 _ _ _ _ _ (go 8 0 rfl))
def XI : List Nat := [97, 98, 99, 100, 101, 120, 121, 122, 123, 124, 125]
theorem l12_image_75 {n j : Nat} (hj : j < 3) (hn : n ≤ 20) (H : ∀ h', fr XI [] h h' → (∀ k, k < 4 → ∀ i, i < n → aI h' (122 + k) (20 * j + i) = aI h (116 + k) i) → (∀ k, k < 4 → ∀ i, i / 20 ≠ j → aI h' (122 + k) i = aI h (122 + k) i) → (∀ a, a < 122 → aI h' a = aI h a) → Q (some (.int (nI n))) h') :
    ∀ (d i : Nat) (h0 : zH), mLay h0 → gI h0 84 54 = nI n → i + d = n → fr XI [] h h0 → (∀ k, k < 4 → ∀ i', i' < i → aI h0 (122 + k) (20 * j + i') = aI h (116 + k) i') → (∀ k, k < 4 → ∀ i, i / 20 ≠ j → aI h0 (122 + k) i = aI h (122 + k) i) → (∀ a, a < 122 → aI h0 a = aI h a) → zX mX12_image 75 [.ref 84, .int (nI j), .int (nI i)] [] h0 Q := by
  intro d
  induction d with
  | zero =>
    intro i h0 L0 g hi F A B C
    have : i = n := by omega
    subst this
    refine bX12_image_75 _ _ _ _ _ ⟨L0.o, ?_⟩
    rw [g]
    exact br_t (nI_le (Nat.le_refl _) (by omega)) (H h0 F A B C)
  | succ d ih =>
    intro i h0 L0 g hi F A B C
    have e1 : (20 : Int32) * nI j + nI i = nI (20 * j + i) := by rw [nI_lit 20, nI_mul, nI_add]
    have c1 : (nI (20 * j + i)).toNatClampNeg = 20 * j + i := nI_clamp (by omega)
    have ci : (nI i).toNatClampNeg = i := nI_clamp (by omega)
    have vi : ∀ (h0 : zH) (a x m : Nat), aN h0 a = m → x < m → m < 2 ^ 31 → vp_in (nI x) (aN h0 a) := fun h0 a x m e h1 h2 => by rw [e]; exact vp_in_nI h1 h2
    refine bX12_image_75 _ _ _ _ _ ⟨L0.o, br_f (by rw [g]; exact nI_ge (by omega) (by omega)) ?_⟩
    rw [e1, c1, ci]
    refine ⟨_, L0.r58, _, L0.r50, L0.k50, vi _ _ _ _ L0.n50 (by omega) (by decide), L0.k58, vi _ _ _ _ L0.n58 (by omega) (by decide), fun h9 e9 => ?_⟩
    have F9 : fr XI [] h0 h9 := by rw [e9]; exact fr_pI (by decide)
    have L9 := L0.fr F9 (by decide)
    refine ⟨_, L9.r59, _, L9.r51, L9.k51, vi _ _ _ _ L9.n51 (by omega) (by decide), L9.k59, vi _ _ _ _ L9.n59 (by omega) (by decide), fun h19 e19 => ?_⟩
    have F19 : fr XI [] h9 h19 := by rw [e19]; exact fr_pI (by decide)
    have L19 := L9.fr F19 (by decide)
    refine ⟨_, L19.r60, _, L19.r52, L19.k52, vi _ _ _ _ L19.n52 (by omega) (by decide), L19.k60, vi _ _ _ _ L19.n60 (by omega) (by decide), fun h31 e31 => ?_⟩
    have F31 : fr XI [] h19 h31 := by rw [e31]; exact fr_pI (by decide)
    have L31 := L19.fr F31 (by decide)
    refine ⟨_, L31.r61, _, L31.r53, L31.k53, vi _ _ _ _ L31.n53 (by omega) (by decide), L31.k61, vi _ _ _ _ L31.n61 (by omega) (by decide), fun h45 e45 => ?_⟩
    have F45 : fr XI [] h31 h45 := by rw [e45]; exact fr_pI (by decide)
    have C' : ∀ a, a < 122 → aI h45 a = aI h0 a := fun a ha => by
      funext k
      rw [e45, aI_pI_n (Or.inl (by omega)), e31, aI_pI_n (Or.inl (by omega)), e19, aI_pI_n (Or.inl (by omega)), e9, aI_pI_n (Or.inl (by omega))]
    have x : ∀ k, k < 4 → ∀ m, aI h45 (122 + k) m = if m = 20 * j + i then aI h0 (116 + k) i else aI h0 (122 + k) m := fun k hk m => by
      have : k = 0 ∨ k = 1 ∨ k = 2 ∨ k = 3 := by omega
      rcases this with rfl | rfl | rfl | rfl
      · rw [e45, aI_pI_n (Or.inl (by decide)), e31, aI_pI_n (Or.inl (by decide)), e19, aI_pI_n (Or.inl (by decide)), e9, aI_pI ⟨_, L0.k58⟩]; simp
      · rw [e45, aI_pI_n (Or.inl (by decide)), e31, aI_pI_n (Or.inl (by decide)), e19, aI_pI ⟨_, L9.k59⟩, e9, aI_pI_n (Or.inl (by decide)), aI_pI_n (Or.inl (by decide))]; simp
      · rw [e45, aI_pI_n (Or.inl (by decide)), e31, aI_pI ⟨_, L19.k60⟩, e19, aI_pI_n (Or.inl (by decide)), aI_pI_n (Or.inl (by decide)), e9, aI_pI_n (Or.inl (by decide)), aI_pI_n (Or.inl (by decide))]; simp
      · rw [e45, aI_pI ⟨_, L31.k61⟩, e31, aI_pI_n (Or.inl (by decide)), aI_pI_n (Or.inl (by decide)), e19, aI_pI_n (Or.inl (by decide)), aI_pI_n (Or.inl (by decide)), e9, aI_pI_n (Or.inl (by decide)), aI_pI_n (Or.inl (by decide))]; simp
    have FF := ((F9.tr F19).tr F31).tr F45
    rw [nI_1]
    refine ih (i + 1) h45 (L31.fr F45 (by decide)) (by rw [FF.gi (by simp)]; exact g) (by omega) (F.tr FF) (fun k hk i' hi' => ?_) (fun k hk m hm => ?_) (fun a ha => (C' a ha).trans (C a ha))
    · rw [x k hk]
      by_cases z : i' = i
      · subst z; rw [if_pos rfl, C (116 + k) (by omega)]
      · rw [if_neg (by omega)]; exact A k hk i' (by omega)
    · rw [x k hk, if_neg (by omega)]; exact B k hk m hm
end

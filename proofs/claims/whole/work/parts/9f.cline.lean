/-! ===== the class reads a line: steps, names, streets, voters ===== -/
section
variable {h h' : zH} {Q : Option Value → zH → Prop} {n tc i t : Nat} {bs : Nat → Nat} {R : List Nat} {r : zRl} {K : zKs}
theorem u4_fail {k : Nat} (P : cEx h n bs tc i) (hk : 0 < k ∧ k ≤ 5) (H : ∀ h', fr [] YC h h' → cLo h' n bs tc (mpk k (tk n bs i)) → Q (some (.int 0)) h') : zC mX4_fail [.ref 1, .int (nI k)] h Q :=
  s4_fail P.1.1 P.1.2 hk (fun _ h' F E => H h' (F.mo (by simp) (by simp)) ⟨⟨i, P.1.fr F (by decide) (by decide) (by decide)⟩, E⟩) (fun z => absurd P.2.1 z)
theorem u4_take {κ : Nat} (P : cEx h n bs tc i) (hκ : κ < 30) (H1 : (tk n bs i).1 = κ → ∀ h', fr [] YC h h' → cEx h' n bs tc (i + 1) → Q (some (.int 1)) h') (H2 : (tk n bs i).1 ≠ κ → ∀ h', fr [] YC h h' → cLo h' n bs tc (mp n bs i) → Q (some (.int 0)) h') : zC mX4_take [.ref 1, .int (nI κ)] h Q := by
  refine s4_take P.1.1 P.1.2 (by omega) (fun _ e h' F C => ?_) (fun _ e h' F E => H2 e h' (F.mo (by simp) (by simp)) ⟨⟨i, P.1.fr F (by decide) (by decide) (by decide)⟩, E⟩) (fun z => absurd P.2.1 z)
  rw [nxi_s P.1.2 (by omega) (by omega)] at C
  exact H1 e h' (F.mo (by simp) (by simp)) ⟨⟨P.1.1.fr F (by simp) (by decide) (by simp) (by simp) (by simp), C⟩, P.2.fr F (by simp)⟩
theorem u4_adv (P : cEx h n bs tc i) (n30 : (tk n bs i).1 ≠ 30) (n31 : (tk n bs i).1 ≠ 31) (H : ∀ h', fr [] YC h h' → cEx h' n bs tc (i + 1) → Q none h') : zC mX8_advance [.ref 2] h Q := by
  refine s8_advance P.1.1.2.2.2.2 P.1.2 (fun h' F C => ?_)
  rw [nxi_s P.1.2 n30 n31] at C
  exact H h' (F.mo (by simp) (by simp)) ⟨⟨P.1.1.fr F (by simp) (by decide) (by simp) (by simp) (by simp), C⟩, P.2.fr F (by simp)⟩
/-- a name that is new -/
theorem u4_takeNew {row m N : Nat} {k : Nat → Nat} (P : cEx h n bs tc i) (hrow : 25 < row) (hl : lK h row) (hN : aN h row = N) (h31 : N < 2 ^ 31) (hm : m < N) (A : ∀ j, j < m → aL h row j = lN (k j)) (hk : ∀ j, j < m → k j < 32 ^ 8)
    (H1 : ∀ x h', tkF (tk n bs i) k m = .inr x → fr [row] YC h h' → cEx h' n bs tc (i + 1) → aL h' row m = lN x → (∀ j, j ≠ m → aL h' row j = aL h row j) → Q (some (.int 1)) h') (H2 : ∀ e h', tkF (tk n bs i) k m = .inl e → fr [] YC h h' → cLo h' n bs tc e → Q (some (.int 0)) h') : zC mX4_takeNew [.ref 1, .ref row, .int (nI m)] h Q := by
  have b31 := (tk_k (n := n) (bs := bs) i).1
  have L := P.1.1
  have C := P.1.2
  have o20 := (tk_o (n := n) (bs := bs) i).2.2.1
  have cm : (nI m).toNatClampNeg = m := nI_clamp (by omega)
  refine nX4_takeNew _ _ _ _ _ (bX4_takeNew_0 _ _ _ _ _ ⟨L.1, _, L.2.1, L.2.2.2.2.1.1, ?_⟩)
  rw [C.2.2.2.1, nI_lit 20, nI_eq (by omega) (by decide)]
  refine ⟨fun q => br_f (nI_pos (by omega)) ⟨hl, br_t (by rw [hN]; exact nI_lt hm h31) ?_⟩, fun q => u4_fail (k := 2) P (by decide) (fun h' F L' => ⟨_, rfl, Or.inl rfl, H2 _ h' (by unfold tkF; rw [if_neg q]) F L'⟩)⟩
  have v64 : (tk n bs i).2.2.1 < 2 ^ 64 := Nat.lt_of_lt_of_le (o20 (by omega)) (by decide)
  have gv : gL h 2 10 = lN (tk n bs i).2.2.1 := C.2.2.2.2.2 (by omega)
  have go : ∀ (d j : Nat), j + d = m → (∀ l, l < j → k l ≠ (tk n bs i).2.2.1) → zX mX4_takeNew 30 [.ref 1, .ref row, .int (nI m), .int (nI j)] [] h Q := by
    intro d
    induction d with
    | zero =>
      intro j hj ne
      have : j = m := by omega
      subst this
      have ft : tkF (tk n bs i) k j = .inr (tk n bs i).2.2.1 := by unfold tkF; rw [if_pos q, fx_no ne]
      refine bX4_takeNew_30 _ _ _ _ _ _ (br_t (nI_le (Nat.le_refl _) (by omega)) ⟨L.1, _, L.2.1, L.2.2.2.2.1.1, hl, by rw [hN]; exact vp_in_nI hm h31, fun h7 e7 => ?_⟩)
      rw [cm, gv] at e7
      have F7 : fr [row] [] h h7 := by rw [e7]; exact fr_pL (by simp)
      have P7 : cEx h7 n bs tc i := P.fr F7 (by simp; omega) (by decide) (by decide) (by simp)
      refine ⟨_, P7.1.1.2.1, P7.1.1.2.2.2.2.1.1, u4_adv P7 (by omega) (by omega) (fun h8 F8 P8 => ⟨rfl, H1 _ h8 ft ((F7.mo (by simp) (by simp)).tr (F8.mo (by simp) (by simp))) P8 ?_ (fun l hl' => ?_)⟩)⟩
      · rw [F8.l (by simp), e7]; exact aL_pL_s hl
      · rw [F8.l (by simp), e7, aL_pL_n (Or.inr hl')]
    | succ d ih =>
      intro j hj ne
      have cj : (nI j).toNatClampNeg = j := nI_clamp (by omega)
      refine bX4_takeNew_30 _ _ _ _ _ _ (br_f (nI_ge (by omega) (by omega)) ⟨hl, by rw [hN]; exact vp_in_nI (by omega) h31, L.1, _, L.2.1, L.2.2.2.2.1.1, ?_⟩)
      rw [cj, A j (by omega), gv, lg_cmp_eq, lN_eq6 (Nat.lt_of_lt_of_le (hk j (by omega)) (by decide)) v64, nI_1]
      refine ⟨fun z => u4_fail (k := 3) P (by decide) (fun h' F L' => ⟨_, rfl, Or.inl rfl, H2 (3, (tk n bs i).2.1) h' ?_ F ?_⟩), fun z => ih (j + 1) (by omega) (fun l hl' => ?_)⟩
      · unfold tkF
        rw [if_pos q, fx_of (by omega) z ne]
      · have : mpk 3 (tk n bs i) = (3, (tk n bs i).2.1) := by unfold mpk; rw [if_neg (by omega)]
        rw [this] at L'
        exact L'
      · by_cases y : l = j
        · rw [y]; exact z
        · exact ne l (by omega)
  exact go m 0 (by omega) (fun l hl' => absurd hl' (Nat.not_lt_zero l))
/-- the town that is read -/
def cTw (h : zH) (t : Nat) (R : List Nat) (r : zRl) : Prop := cKy h t r.1.1 ∧ ((gR h t 3 = some (t + 4) ∧ iK h (t + 4) 0 ∧ aN h (t + 4) = 8) ∧ (gR h t 4 = some (t + 5) ∧ iK h (t + 5) 0 ∧ aN h (t + 5) = 8) ∧ (gR h t 5 = some (t + 6) ∧ rK h (t + 6) 0 ∧ aN h (t + 6) = 8)) ∧ (∀ v, v < r.1.1.2.2.1 → aI h (t + 4) v = nI (r.1.2.1 v) ∧ aI h (t + 5) v = nI (r.1.2.2 v)) ∧ (∃ tb, gI h t 9 = nI tb ∧ tb < 256 ∧ ∀ v, tb.testBit v = r.2.1 v) ∧ ∀ v, v < 8 → (r.2.1 v = false → aR h (t + 6) v = none) ∧ (r.2.1 v = true → ∃ bl, aR h (t + 6) v = some bl ∧ 126 ≤ bl ∧ cB h R bl (r.2.2 v).1 (r.2.2 v).2.1 (r.2.2 v).2.2)
theorem cTw.fr {X : List Nat} {Y : List (Nat × Nat)} (W : cTw h t R r) (F : fr X Y h h') (ht : t = 70 ∨ t = 77) (hX : X.all (fun k => decide (k < 26)) = true) (hY : Y.all (fun q => decide (q.1 < 26)) = true) : cTw h' t R r := by
  have nX : ∀ k, 26 ≤ k → k ∉ X := fun k hk z => by have := List.all_eq_true.mp hX k z; simp at this; omega
  have nY : ∀ f, (t, f) ∉ Y := fun f z => by have := List.all_eq_true.mp hY (t, f) z; simp at this; omega
  obtain ⟨w1, ⟨⟨a1, a2, a3⟩, ⟨b1, b2, b3⟩, ⟨c1, c2, c3⟩⟩, w3, ⟨tb, d1, d2, d3⟩, w5⟩ := W
  refine ⟨w1.fr F (nX _ (by omega)) (nX _ (by omega)) (nX _ (by omega)) (fun f _ => nY f), ⟨⟨by rw [F.gr (nY 3)]; exact a1, F.ik a2, by rw [F.n]; exact a3⟩, ⟨by rw [F.gr (nY 4)]; exact b1, F.ik b2, by rw [F.n]; exact b3⟩, ⟨by rw [F.gr (nY 5)]; exact c1, F.rk c2, by rw [F.n]; exact c3⟩⟩, fun v hv => by rw [F.i (nX _ (by omega)), F.i (nX _ (by omega))]; exact w3 v hv, ⟨tb, by rw [F.gi (nY 9)]; exact d1, d2, d3⟩, fun v hv => ⟨fun z => by rw [F.r (nX _ (by omega))]; exact (w5 v hv).1 z, fun z => ?_⟩⟩
  obtain ⟨bl, e1, e2, e3⟩ := (w5 v hv).2 z
  refine ⟨bl, by rw [F.r (nX _ (by omega))]; exact e1, e2, e3.fr F (fun k hk => Or.inl ?_) (fun q hq => ?_)⟩
  · have := List.all_eq_true.mp hX k hk; simp at this; omega
  · have := List.all_eq_true.mp hY q hq; simp at this; omega
theorem cTw.fz {X : List Nat} {Y : List (Nat × Nat)} (W : cTw h t R r) (F : fz h.1 X Y h h') (l : 126 ≤ h.1) (ht : t = 70 ∨ t = 77) (hX : X.all (fun k => decide (k < 26)) = true) (hY : Y.all (fun q => decide (q.1 < 26)) = true) : cTw h' t R r := by
  have nX : ∀ k, 26 ≤ k → k ∉ X := fun k hk z => by have := List.all_eq_true.mp hX k z; simp at this; omega
  have nY : ∀ f, (t, f) ∉ Y := fun f z => by have := List.all_eq_true.mp hY (t, f) z; simp at this; omega
  have lt : ∀ j, j < 7 → t + j < h.1 := fun j hj => by omega
  obtain ⟨⟨k0, ⟨k1, k2, k3, k4, k5⟩, ⟨l1, l2, l3, l4, l5⟩, m1, m2, m3, m4, m5⟩, ⟨⟨a1, a2, a3⟩, ⟨b1, b2, b3⟩, ⟨c1, c2, c3⟩⟩, w3, ⟨tb, d1, d2, d3⟩, w5⟩ := W
  have t0 : t < h.1 := by omega
  refine ⟨⟨F.o k0, ⟨by rw [F.gr t0 (nY 0)]; exact k1, F.lk k2, by rw [F.n (lt 1 (by decide))]; exact k3, by rw [F.gi t0 (nY 6)]; exact k4, fun j hj => by rw [F.l (lt 1 (by decide)) (nX _ (by omega))]; exact k5 j hj⟩, ⟨by rw [F.gr t0 (nY 1)]; exact l1, F.lk l2, by rw [F.n (lt 2 (by decide))]; exact l3, by rw [F.gi t0 (nY 7)]; exact l4, fun j hj => by rw [F.l (lt 2 (by decide)) (nX _ (by omega))]; exact l5 j hj⟩, by rw [F.gr t0 (nY 2)]; exact m1, F.lk m2, by rw [F.n (lt 3 (by decide))]; exact m3, by rw [F.gi t0 (nY 8)]; exact m4, fun j hj => by rw [F.l (lt 3 (by decide)) (nX _ (by omega))]; exact m5 j hj⟩, ⟨⟨by rw [F.gr t0 (nY 3)]; exact a1, F.ik a2, by rw [F.n (lt 4 (by decide))]; exact a3⟩, ⟨by rw [F.gr t0 (nY 4)]; exact b1, F.ik b2, by rw [F.n (lt 5 (by decide))]; exact b3⟩, ⟨by rw [F.gr t0 (nY 5)]; exact c1, F.rk c2, by rw [F.n (lt 6 (by decide))]; exact c3⟩⟩, fun v hv => by rw [F.i (lt 4 (by decide)) (nX _ (by omega)), F.i (lt 5 (by decide)) (nX _ (by omega))]; exact w3 v hv, ⟨tb, by rw [F.gi t0 (nY 9)]; exact d1, d2, d3⟩, fun v hv => ⟨fun z => by rw [F.r (lt 6 (by decide)) (nX _ (by omega))]; exact (w5 v hv).1 z, fun z => ?_⟩⟩
  obtain ⟨bl, e1, e2, e3⟩ := (w5 v hv).2 z
  refine ⟨bl, by rw [F.r (lt 6 (by decide)) (nX _ (by omega))]; exact e1, e2, e3.fz F (fun k hk => Or.inl ?_) (fun q hq => ?_) (fun k hk => Or.inl hk)⟩
  · have := List.all_eq_true.mp hX k hk; simp at this; omega
  · have := List.all_eq_true.mp hY q hq; simp at this; omega
/-- a key behind the last is written -/
theorem cTw_kl {row m : Nat} {Y : List (Nat × Nat)} (W : cTw h t R r) (F : fr [row] Y h h') (ht : t = 70 ∨ t = 77) (hY : Y.all (fun q => decide (q.1 < 26)) = true) (ne : ∀ j, j ≠ m → aL h' row j = aL h row j) (hc : (row = t + 1 ∧ m = r.1.1.1.1) ∨ (row = t + 2 ∧ m = r.1.1.2.1.1) ∨ (row = t + 3 ∧ m = r.1.1.2.2.1)) : cTw h' t R r := by
  have nX : ∀ k, k ≠ row → k ∉ [row] := fun k hk z => hk (by simpa using z)
  have nY : ∀ f, (t, f) ∉ Y := fun f z => by have := List.all_eq_true.mp hY (t, f) z; simp at this; omega
  obtain ⟨⟨k0, ⟨k1, k2, k3, k4, k5⟩, ⟨l1, l2, l3, l4, l5⟩, m1, m2, m3, m4, m5⟩, ⟨⟨a1, a2, a3⟩, ⟨b1, b2, b3⟩, ⟨c1, c2, c3⟩⟩, w3, ⟨tb, d1, d2, d3⟩, w5⟩ := W
  have key : ∀ (x N : Nat), (row = x → m = N) → ∀ j, j < N → aL h' x j = aL h x j := fun x N hx j hj => by
    by_cases z : x = row
    · rw [z]; exact ne j (by have := hx z.symm; omega)
    · rw [F.l (nX x z)]
  refine ⟨⟨F.o k0, ⟨by rw [F.gr (nY 0)]; exact k1, F.lk k2, by rw [F.n]; exact k3, by rw [F.gi (nY 6)]; exact k4, fun j hj => by rw [key (t + 1) r.1.1.1.1 (by omega) j hj]; exact k5 j hj⟩, ⟨by rw [F.gr (nY 1)]; exact l1, F.lk l2, by rw [F.n]; exact l3, by rw [F.gi (nY 7)]; exact l4, fun j hj => by rw [key (t + 2) r.1.1.2.1.1 (by omega) j hj]; exact l5 j hj⟩, by rw [F.gr (nY 2)]; exact m1, F.lk m2, by rw [F.n]; exact m3, by rw [F.gi (nY 8)]; exact m4, fun j hj => by rw [key (t + 3) r.1.1.2.2.1 (by omega) j hj]; exact m5 j hj⟩, ⟨⟨by rw [F.gr (nY 3)]; exact a1, F.ik a2, by rw [F.n]; exact a3⟩, ⟨by rw [F.gr (nY 4)]; exact b1, F.ik b2, by rw [F.n]; exact b3⟩, ⟨by rw [F.gr (nY 5)]; exact c1, F.rk c2, by rw [F.n]; exact c3⟩⟩, fun v hv => by rw [F.i (nX _ (by omega)), F.i (nX _ (by omega))]; exact w3 v hv, ⟨tb, by rw [F.gi (nY 9)]; exact d1, d2, d3⟩, fun v hv => ⟨fun z => by rw [F.r (nX _ (by omega))]; exact (w5 v hv).1 z, fun z => ?_⟩⟩
  obtain ⟨bl, e1, e2, e3⟩ := (w5 v hv).2 z
  refine ⟨bl, by rw [F.r (nX _ (by omega))]; exact e1, e2, e3.fr F (fun k hk => Or.inl ?_) (fun q hq => ?_)⟩
  · have : k = row := by simpa using hk
    omega
  · have := List.all_eq_true.mp hY q hq; simp at this; omega
/-- a count more -/
theorem cTw_up {f : Nat} {w : Int32} {r' : zRl} (W : cTw h t R r) (ht : t = 70 ∨ t = 77) (hc : (f = 6 ∧ ∃ x, aL h (t + 1) r.1.1.1.1 = lN x ∧ w = nI (r.1.1.1.1 + 1) ∧ r' = rN r x) ∨ (f = 7 ∧ ∃ x, aL h (t + 2) r.1.1.2.1.1 = lN x ∧ w = nI (r.1.1.2.1.1 + 1) ∧ r' = rS r x)) : cTw (pF h t f (.int w)) t R r' := by
  have F : fr [] [(t, f)] h (pF h t f (.int w)) := fr_pF (t := 0) (by simp) W.1.1 (by rcases hc with ⟨rfl, -⟩ | ⟨rfl, -⟩ <;> rfl) rfl
  have nY : ∀ g, g ≠ f → (t, g) ∉ [(t, f)] := fun g hg z => hg (by simpa using z)
  have ho : oK h t 10 := W.1.1
  obtain ⟨⟨k0, ⟨k1, k2, k3, k4, k5⟩, ⟨l1, l2, l3, l4, l5⟩, m1, m2, m3, m4, m5⟩, ⟨⟨a1, a2, a3⟩, ⟨b1, b2, b3⟩, ⟨c1, c2, c3⟩⟩, w3, ⟨tb, d1, d2, d3⟩, w5⟩ := W
  have hf : f = 6 ∨ f = 7 := by rcases hc with ⟨z, -⟩ | ⟨z, -⟩ <;> omega
  have rest : ∀ v, v < 8 → (r.2.1 v = false → aR (pF h t f (.int w)) (t + 6) v = none) ∧ (r.2.1 v = true → ∃ bl, aR (pF h t f (.int w)) (t + 6) v = some bl ∧ 126 ≤ bl ∧ cB (pF h t f (.int w)) R bl (r.2.2 v).1 (r.2.2 v).2.1 (r.2.2 v).2.2) := fun v hv => ⟨fun z => by rw [F.r (by simp)]; exact (w5 v hv).1 z, fun z => by
    obtain ⟨bl, e1, e2, e3⟩ := (w5 v hv).2 z
    exact ⟨bl, by rw [F.r (by simp)]; exact e1, e2, e3.fr F (fun k hk => by simp at hk) (fun q hq => by simp at hq; rw [hq]; exact ⟨by show t < 126; omega, by show t ≠ 34; omega⟩)⟩⟩
  have lay : (gR (pF h t f (.int w)) t 3 = some (t + 4) ∧ iK (pF h t f (.int w)) (t + 4) 0 ∧ aN (pF h t f (.int w)) (t + 4) = 8) ∧ (gR (pF h t f (.int w)) t 4 = some (t + 5) ∧ iK (pF h t f (.int w)) (t + 5) 0 ∧ aN (pF h t f (.int w)) (t + 5) = 8) ∧ (gR (pF h t f (.int w)) t 5 = some (t + 6) ∧ rK (pF h t f (.int w)) (t + 6) 0 ∧ aN (pF h t f (.int w)) (t + 6) = 8) := ⟨⟨by rw [F.gr (nY 3 (by omega))]; exact a1, F.ik a2, by rw [F.n]; exact a3⟩, ⟨by rw [F.gr (nY 4 (by omega))]; exact b1, F.ik b2, by rw [F.n]; exact b3⟩, ⟨by rw [F.gr (nY 5 (by omega))]; exact c1, F.rk c2, by rw [F.n]; exact c3⟩⟩
  have bits : ∃ tb, gI (pF h t f (.int w)) t 9 = nI tb ∧ tb < 256 ∧ ∀ v, tb.testBit v = r.2.1 v := ⟨tb, by rw [F.gi (nY 9 (by omega))]; exact d1, d2, d3⟩
  have vs : ∀ v, v < r.1.1.2.2.1 → aI (pF h t f (.int w)) (t + 4) v = nI (r.1.2.1 v) ∧ aI (pF h t f (.int w)) (t + 5) v = nI (r.1.2.2 v) := fun v hv => by rw [F.i (by simp), F.i (by simp)]; exact w3 v hv
  rcases hc with ⟨rfl, x, ex, ew, rfl⟩ | ⟨rfl, x, ex, ew, rfl⟩
  · refine ⟨⟨F.o k0, ⟨by rw [F.gr (nY 0 (by decide))]; exact k1, F.lk k2, by rw [F.n]; exact k3, by rw [gI_pF_s ho (by decide), ew]; rfl, fun j hj => ?_⟩, ⟨by rw [F.gr (nY 1 (by decide))]; exact l1, F.lk l2, by rw [F.n]; exact l3, by rw [F.gi (nY 7 (by decide))]; exact l4, fun j hj => by rw [F.l (by simp)]; exact l5 j hj⟩, by rw [F.gr (nY 2 (by decide))]; exact m1, F.lk m2, by rw [F.n]; exact m3, by rw [F.gi (nY 8 (by decide))]; exact m4, fun j hj => by rw [F.l (by simp)]; exact m5 j hj⟩, lay, vs, bits, rest⟩
    rw [F.l (by simp)]
    show _ = lN (va_up r.1.1.1.2 r.1.1.1.1 x j)
    have hj' : j < r.1.1.1.1 + 1 := hj
    by_cases z : j = r.1.1.1.1
    · rw [z, up_s]; exact ex
    · rw [up_n z]; exact k5 j (by omega)
  · refine ⟨⟨F.o k0, ⟨by rw [F.gr (nY 0 (by decide))]; exact k1, F.lk k2, by rw [F.n]; exact k3, by rw [F.gi (nY 6 (by decide))]; exact k4, fun j hj => by rw [F.l (by simp)]; exact k5 j hj⟩, ⟨by rw [F.gr (nY 1 (by decide))]; exact l1, F.lk l2, by rw [F.n]; exact l3, by rw [gI_pF_s ho (by decide), ew]; rfl, fun j hj => ?_⟩, by rw [F.gr (nY 2 (by decide))]; exact m1, F.lk m2, by rw [F.n]; exact m3, by rw [F.gi (nY 8 (by decide))]; exact m4, fun j hj => by rw [F.l (by simp)]; exact m5 j hj⟩, lay, vs, bits, rest⟩
    rw [F.l (by simp)]
    show _ = lN (va_up r.1.1.2.1.2 r.1.1.2.1.1 x j)
    have hj' : j < r.1.1.2.1.1 + 1 := hj
    by_cases z : j = r.1.1.2.1.1
    · rw [z, up_s]; exact ex
    · rw [up_n z]; exact l5 j (by omega)
end

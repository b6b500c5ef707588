/-! ===== the class: rows made fresh; the least set that can't be kept ===== -/
section
variable {h h' : zH} {t N V a : Nat} {st wt mk : Nat → Nat} {Q : Option Value → zH → Prop} {X : List Nat} {Y : List (Nat × Nat)} {f : (Nat → Nat) → Nat → Nat} {o : Nat → Option Nat} {cn : Nat → Nat} {cd : Nat → Nat → Nat × Nat × Nat} {cu : Nat → Nat}
theorem e4V (hV : V ≤ 8) : (1 : Int32) <<< (((2 : Int32) * nI V) &&& 31) = nI (4 ^ V) := by
  rw [nI_lit 2, nI_mul, nI_1shl (by omega), p42]
theorem t255 : ∀ v, v < 8 → (255 : Nat).testBit v = true := by decide
theorem s5_refresh {sc tc nc S : Nat} {R : List Nat} (T : cT h t N V st wt) (S13 : cSp h 13) (E : cEn h 33 o) (L : cRl h sc tc nc) (D : cRd h sc N V f S) (hf : ∀ mk v, v < V → f mk v = sayF V N st wt mk v (cn v) (cd v))
    (Bs : ∀ v, v < V → cB h R ((o v).getD 34) (cn v) (cd v) (cu v) ∧ okC V N v (cn v) (cd v)) (hR : sc ∈ R) (hmin : 126 ≤ h.1) (e8 : gI h 12 8 = 0)
    (H : ∀ h' sc' tc' nc', fz h.1 (XW sc tc nc) YW h h' → cRl h' sc' tc' nc' → cRd h' sc' N V f 0 → gI h' 12 8 = 1 → cRf h' sc' tc' nc' N V st wt f → (sc' = sc ∨ h.1 ≤ sc') → (tc' = tc ∨ h.1 ≤ tc') → (nc' = nc ∨ h.1 ≤ nc') → h'.1 ≤ h.1 + 3 → h'.2.1 + 2 * (aN h sc + aN h tc + aN h nc) ≤ h.2.1 + 2 * (aN h' sc' + aN h' tc' + aN h' nc') → Q none h') :
    zC mX5_refresh [.ref 12, .ref t, .ref 33] h Q := by
  have hV := T.V8
  have p4 : 4 ^ V ≤ 65536 := Nat.le_trans (Nat.pow_le_pow_right (by decide) hV) (by decide)
  have p40 : 0 < 4 ^ V := Nat.pow_pos (by decide)
  have okt := okT_rows L T.1
  have L0 := L
  obtain ⟨⟨o12, r0, r1, k15, n15⟩, ⟨r2, k2, c2, kk, hkk, n2⟩, ⟨r3, k3, c3, n3⟩, ⟨r4, k4, c4, n4⟩, d1, d2, d3⟩ := L
  have n65 : aN h sc ≤ 65536 := by rw [n2]; exact Nat.le_trans (Nat.pow_le_pow_right (by decide) hkk) (by decide)
  obtain ⟨g7, S256, D⟩ := D
  have z0 : ∀ (h1 : zH) (s1 : Nat), (∀ i, i < 4 ^ V → aI h1 s1 i = 0) → sdR h1 s1 N V (fun _ _ => 0) := fun h1 s1 hz r hr hc => ⟨by rw [hz r hr, en_0, nI_0], fun _ _ => Nat.zero_le _⟩
  refine nX5_refresh _ _ _ _ _ (bX5_refresh_0 _ _ _ _ _ ⟨o12, br_t e8 ⟨T.o, _, r2, k2, ?_⟩⟩)
  rw [T.e8, e4V hV]
  refine ⟨fun q => ⟨fun q2 => s7_fill k2 rfl (by omega) (fun h8 F8 z8 => ⟨rfl, ?_⟩), fun q2 => ?_⟩, fun q => ?_⟩
  · rw [nI_leI (by omega) (by omega)] at q
    have T8 := T.fz (F8.z (Nat.le_refl _)) (okT_mo okt (by simp [XW]) (by simp [YW]))
    have g8 : ∀ fl, gR h8 12 fl = gR h 12 fl := fun fl => F8.gr (by simp)
    have L8 : cRl h8 sc tc nc := ⟨⟨F8.o o12, by rw [g8]; exact r0, by rw [g8]; exact r1, F8.ik k15, by rw [F8.n]; exact n15⟩, ⟨by rw [g8]; exact r2, F8.ik k2, c2, kk, hkk, by rw [F8.n]; exact n2⟩, ⟨by rw [g8]; exact r3, F8.ik k3, c3, by rw [F8.n]; exact n3⟩, ⟨by rw [g8]; exact r4, F8.ik k4, c4, by rw [F8.n]; exact n4⟩, d1, d2, d3⟩
    have l8 : h8.1 = h.1 := F8.1.1
    refine l5_refresh64 (R := R) (S0 := 255) (d := fun _ _ => 0) T8 (S13.fz (F8.z (Nat.le_refl _)) (by simp)) (E.fz (F8.z (Nat.le_refl _)) (by simp; omega) (by simp) (by simp) (by simp)) L8 hf (fun v hv => ⟨(Bs v hv).1.fr F8 (by simp [hR]) (by simp), (Bs v hv).2⟩) hR (by omega) (by rw [F8.gi (by simp)]; exact q2) (by decide) (by rw [F8.n]; exact q) (z0 h8 sc (fun i hi => z8 i (by omega))) (fun r _ _ v hv z => by rw [t255 v (by omega)] at z; cases z) (fun h' tc' nc' F L' D' e8' Rf x3 x4 c s => ?_)
    refine H h' sc tc' nc' (((F8.z (Nat.le_refl _)).mo (Nat.le_refl _) (fun k _ hk => by simp at hk; subst hk; simp [XW]) (by simp)).tr (F.mo (by omega) (fun _ _ z => z) (fun _ _ z => z))) L' D' e8' Rf (Or.inl rfl) (by rw [← l8]; exact x3) (by rw [← l8]; exact x4) (by omega) ?_
    rw [F8.n, F8.n, F8.1.2] at s
    have : aN h' sc = aN h sc := by rw [F.n (F8.ik k2).1, F8.n]
    omega
  · rw [nI_leI (by omega) (by omega)] at q
    have S255 : ¬ S = 255 := fun z => q2 (by rw [g7, z]; rfl)
    obtain ⟨D1, d, D2, D3⟩ := D.resolve_left S255
    refine l5_refresh64 (R := R) (S0 := S) (d := d) T S13 E L0 hf Bs hR hmin g7 S256 q D2 D3 (fun h' tc' nc' F L' D' e8' Rf x3 x4 c s => ?_)
    refine H h' sc tc' nc' F L' D' e8' Rf (Or.inl rfl) x3 x4 (by omega) ?_
    have : aN h' sc = aN h sc := F.n k2.1
    omega
  · rw [nI_leI (by omega) (by omega)] at q
    rw [nI_clamp (by omega)]
    refine ⟨nI_pos (by omega), by omega, fun h11 e11 h16 e16 h21 e21 => ?_⟩
    have F11 : fz h.1 [] [(12, 2), (12, 7)] h h11 := by rw [e11]; exact fz_zn (Nat.le_refl _)
    have l11 : h11.1 = h.1 + 1 := by rw [e11]; rfl
    have s11 : h11.2.1 = h.2.1 + 4 ^ V := by rw [e11]; rfl
    have o11 := F11.o o12
    have F16 : fr [] [(12, 2), (12, 7)] h11 h16 := by rw [e16]; exact fr_pF (by simp) o11 rfl rfl
    have o16 := F16.o o11
    have F21' : fr [] [(12, 2), (12, 7)] h16 h21 := by rw [e21]; exact fr_pF (by simp) o16 rfl rfl
    have FB := F16.tr F21'
    have F21 := F11.tr (FB.z (n := h.1) (by omega))
    have l21 : h21.1 = h.1 + 1 := FB.1.1.trans l11
    have s21 : h21.2.1 = h.2.1 + 4 ^ V := FB.1.2.trans s11
    have n21 : aN h21 h.1 = 4 ^ V := by rw [FB.n, e11]; exact zn_N
    have k21 : iK h21 h.1 0 := FB.ik (by rw [e11]; exact iK_new)
    have i21 : ∀ i, aI h21 h.1 i = 0 := fun i => by rw [FB.i (by simp), e11, zn_I]
    have r21 : gR h21 12 2 = some h.1 := by rw [e21, gR_pF_n (Or.inr (by decide)), e16]; exact gR_pF_s o11 (by decide)
    have g21 : ∀ fl, fl ≠ 2 → fl ≠ 7 → gR h21 12 fl = gR h 12 fl := fun fl z1 z2 => F21.gr o12.1 (by simp [z1, z2])
    have nk : ∀ a, a < h.1 → aN h21 a = aN h a := fun a z => F21.n z
    have lt4 : kk < V := by
      rcases Nat.lt_or_ge kk V with z | z
      · exact z
      · have := Nat.pow_le_pow_right (by decide : 0 < 4) z
        omega
    have p44 : 4 * 4 ^ kk ≤ 4 ^ V := by
      rw [Nat.mul_comm, ← Nat.pow_succ]; exact Nat.pow_le_pow_right (by decide) lt4
    have L21 : cRl h21 h.1 tc nc := ⟨⟨F21.o o12, by rw [g21 0 (by decide) (by decide)]; exact r0, by rw [g21 1 (by decide) (by decide)]; exact r1, F21.ik k15, by rw [nk _ k15.1]; exact n15⟩, ⟨r21, k21, Or.inr hmin, V, hV, n21⟩, ⟨by rw [g21 3 (by decide) (by decide)]; exact r3, F21.ik k3, c3, by rw [nk _ k3.1]; exact n3⟩, ⟨by rw [g21 4 (by decide) (by decide)]; exact r4, F21.ik k4, c4, by rw [nk _ k4.1]; exact n4⟩, by have := k3.1; omega, by have := k4.1; omega, d3⟩
    have T21 := T.fz F21 (okT_mo okt (by simp) (by simp [YW]))
    refine l5_refresh64 (R := h.1 :: R) (S0 := 255) (d := fun _ _ => 0) T21 (S13.fz F21 (by simp)) (E.fz F21 (by simp) (by simp) (by simp) (by simp)) L21 hf (fun v hv => ⟨(Bs v hv).1.fz F21 (by simp) (by simp) (fun k hk => by simp at hk; rcases hk with z | z; (· right; omega); exact Or.inl z), (Bs v hv).2⟩) (by simp) (by omega) (by rw [e21]; exact gI_pF_s o16 (by decide)) (by decide) (by rw [n21]; exact Nat.le_refl _) (z0 h21 h.1 (fun i _ => i21 i)) (fun r _ _ v hv z => by rw [t255 v (by omega)] at z; cases z) (fun h' tc' nc' F L' D' e8' Rf x3 x4 c s => ?_)
    refine H h' h.1 tc' nc' ((F21.mo (Nat.le_refl _) (by simp) (fun _ _ z => by simp at z; rcases z with z | z <;> simp [YW, z])).tr (F.mo (by omega) (fun k hk z => by simp [XW] at z ⊢; omega) (fun _ _ z => z))) L' D' e8' Rf (Or.inr (Nat.le_refl _)) (x3.imp id (fun z => by omega)) (x4.imp id (fun z => by omega)) (by omega) ?_
    rw [nk _ k3.1, nk _ k4.1] at s
    have : aN h' h.1 = 4 ^ V := by rw [F.n (by omega)]; exact n21
    omega
theorem ck_iff {s : Nat} (hV : V ≤ 8) : dnC (kp0 N V f) (en 2 V (fun v => if s.testBit v = true then 1 else 0)) ↔ ckP N V f s := by
  have g2 : ∀ v, v < V → (if s.testBit v = true then 1 else 0) < 2 := fun v _ => by split <;> omega
  have k2 : ∀ (mk g : Nat → Nat), ∀ v, v < V → (if mk v = g v then 1 else 0) < 2 := fun mk g v _ => by split <;> omega
  constructor
  · rintro ⟨s0, a, ⟨r, r1, r2, r3⟩, c⟩
    refine ⟨r, r1, r2, fun v hv hs => ?_⟩
    have e : V - 1 - (V - 1 - v) = v := by omega
    have := c (V - 1 - v) (by rw [en2_bit g2, e]; simp [hs]; omega)
    rw [← r3, kpV, en2_bit (k2 _ _), e] at this
    simp at this
    exact this.2.symm
  · rintro ⟨r, r1, r2, r3⟩
    refine ⟨kpV V (f (dg 4 V r)) (dg 4 V r), Nat.lt_of_lt_of_le (en_lt (k2 _ _)) (Nat.le_trans (Nat.pow_le_pow_right (by decide) hV) (by decide)), ⟨r, r1, r2, rfl⟩, fun w hw => ?_⟩
    rw [en2_bit g2] at hw
    rw [kpV, en2_bit (k2 _ _)]
    simp at hw ⊢
    exact ⟨hw.1, (r3 _ (by omega) hw.2).symm⟩
theorem oI_ne {b : Option Nat} (hb : ∀ x, b = some x → x < 2 ^ 31) : oI b = -1 ↔ b = none := by
  cases b with
  | none => simp [oI]
  | some x =>
    have := hb x rfl
    simp only [oI, reduceCtorEq, iff_false]
    intro e
    have : (nI x) < 0 := by rw [e]; decide
    exact nI_pos (hb x rfl) this
/-- fewer than the best so far -/
def lsB (s : Nat) (best : Option Nat) : Bool := match best with
  | none => true
  | some x => decide (pcF s < pcF x)
theorem tlS_s {p : Nat → Bool} {d s : Nat} {best : Option Nat} : tlS p (d + 1) s best = tlS p d (s + 1) (if lsB s best && p s then some s else best) := by cases best <;> rfl
theorem lsB_n {s : Nat} : lsB s none = true := rfl
theorem lsB_t {s x : Nat} (h : pcF s < pcF x) : lsB s (some x) = true := by simp only [lsB, decide_eq_true_eq]; exact h
theorem lsB_f {s x : Nat} (h : ¬ pcF s < pcF x) : lsB s (some x) = false := by simp only [lsB, decide_eq_false_iff_not]; exact h
/-- p tells the sets that can't be kept -/
theorem s5_leastUnkept {p : Nat → Bool} (T : cT h t N V st wt) (o12 : oK h 12 5) (r1 : gR h 12 1 = some 15) (k15 : iK h 15 0) (n15 : aN h 15 = 256) (K : ∀ s, s < 256 → (aI h 15 s = 1 ∧ dnC (kp0 N V f) s) ∨ (aI h 15 s = 0 ∧ ¬ dnC (kp0 N V f) s)) (hp : ∀ s, s < 2 ^ V → (p s = true ↔ ¬ ckP N V f s))
    (H : Q (some (.int (oI (tlS p (2 ^ V) 0 none)))) h) : zC mX5_leastUnkept [.ref 12, .ref t] h Q := by
  have hV := T.V8
  have p2 : 2 ^ V ≤ 256 := Nat.le_trans (Nat.pow_le_pow_right (by decide) hV) (by decide)
  have main : ∀ (d s : Nat) (best : Option Nat), s + d = 2 ^ V → (∀ x, best = some x → x < 256) → Q (some (.int (oI (tlS p d s best)))) h → zX mX5_leastUnkept 4 [.ref 12, .ref t, .int (oI best), .int (nI s), .float 0] [] h Q := by
    intro d
    induction d with
    | zero =>
      intro s best hs hb H
      have : s = 2 ^ V := by omega
      subst this
      refine bX5_leastUnkept_4 _ _ _ _ _ _ ⟨T.o, ?_⟩
      rw [T.e8, nI_1shl (by omega)]
      exact br_t (nI_le (Nat.le_refl _) (by omega)) H
    | succ d ih =>
      intro s best hs hb H
      have at35 : ∀ (s0 : Nat), s0 < 2 → (lsB s best = decide (s0 = 1)) → zX mX5_leastUnkept 35 [.ref 12, .ref t, .int (oI best), .int (nI s), .float 0] [.int (nI s0)] h Q := fun s0 h2 e => by
        rw [tlS_s, e] at H
        refine bX5_leastUnkept_35 _ _ _ _ _ _ _ ⟨fun q => ?_, fun q => ⟨o12, _, r1, T.o, s10_bitsInRows T (by omega) ⟨_, rfl, ?_⟩⟩⟩
        · rw [← nI_0, nI_eq (by omega) (by decide)] at q
          rw [nI_1]
          refine ih (s + 1) best (by omega) hb ?_
          subst q
          simpa using H
        · have s01 : s0 = 1 := by
            rcases Nat.lt_or_ge s0 1 with z | z
            · have : s0 = 0 := by omega
              subst this; exact absurd nI_0 q
            · omega
          subst s01
          have l3 : ∀ v, v < V → (if s.testBit v = true then 3 else 0) < 4 := fun v _ => by split <;> omega
          have e5 : nI (en 4 V (fun v => if s.testBit v = true then 3 else 0)) &&& (21845 : Int32) = nI (en 4 V (fun v => if s.testBit v = true then 1 else 0)) := by
            rw [nI_lit 21845, nI_and, msk (en_lt l3), cst hV m5, en4_and l3 (fun _ _ => by decide)]
            congr 1
            refine en_congr (fun v _ => ?_)
            split <;> rfl
          rw [e5]
          have g2 : ∀ v, v < V → (if s.testBit v = true then 1 else 0) < 2 := fun v _ => by split <;> omega
          have b2 : en 2 V (fun v => if s.testBit v = true then 1 else 0) < 256 := Nat.lt_of_lt_of_le (en_lt g2) p2
          have b4 : en 4 V (fun v => if s.testBit v = true then 1 else 0) < 65536 := Nat.lt_of_lt_of_le (en_lt (fun v hv => Nat.lt_trans (g2 v hv) (by decide))) (Nat.le_trans (Nat.pow_le_pow_right (by decide) hV) (by decide))
          refine s5_narrowed (by omega) ⟨_, rfl, ?_⟩
          rw [nar_en hV g2]
          refine s11_atN k15 n15 b2 (by decide) ⟨_, rfl, ?_⟩
          have ki := K _ b2
          rw [ck_iff hV] at ki
          rw [nI_1]
          refine ⟨fun q2 => ?_, fun q2 => ?_⟩
          · have hps : p s = true := by
              rw [hp s (by omega)]
              rcases ki with z | z
              · rw [z.1] at q2; exact absurd q2 (by decide +kernel)
              · exact z.2
            refine ih (s + 1) (some s) (by omega) (fun x hx => by cases hx; omega) ?_
            simpa [hps] using H
          · have hps : p s = false := by
              cases hq : p s
              · rfl
              · rw [hp s (by omega)] at hq
                rcases ki with z | z
                · exact absurd z.2 hq
                · exact absurd z.1 q2
            refine ih (s + 1) best (by omega) hb ?_
            simpa [hps] using H
      refine bX5_leastUnkept_4 _ _ _ _ _ _ ⟨T.o, ?_⟩
      rw [T.e8, nI_1shl (by omega)]
      refine br_f (nI_ge (by omega) (by omega)) ⟨fun q => bX5_leastUnkept_30 _ _ _ _ _ _ (at35 1 (by decide) ?_), fun q => ?_⟩
      · rw [oI_ne (fun x hx => by have := hb x hx; omega)] at q
        rw [q, lsB_n]; rfl
      · rw [oI_ne (fun x hx => by have := hb x hx; omega)] at q
        cases best with
        | none => exact absurd rfl q
        | some x =>
          have hx := hb x rfl
          refine s6_bitCount (by omega) ⟨_, rfl, ?_⟩
          show zC mJ6_bitCount_0f7a4 [.int (nI x)] h _
          have pl : ∀ y, pcF y ≤ 31 := fun y => Nat.le_trans (sm_le _ 1 31 0 (fun i _ _ => by have := Nat.mod_lt (y / 2 ^ i) (by decide : 2 > 0); omega)) (by decide)
          have p1 := pl s
          have p2' := pl x
          refine s6_bitCount hx ⟨_, rfl, fun q2 => ?_, fun q2 => ?_⟩
          · rw [nI_leI (by omega) (by omega)] at q2
            exact at35 0 (by decide) (lsB_f (by omega))
          · rw [nI_leI (by omega) (by omega)] at q2
            exact bX5_leastUnkept_30 _ _ _ _ _ _ (at35 1 (by decide) (lsB_t (by omega)))
  exact nX5_leastUnkept _ _ _ _ (bX5_leastUnkept_0 _ _ _ _ (main (2 ^ V) 0 none (by omega) (fun _ z => by cases z) H))
end

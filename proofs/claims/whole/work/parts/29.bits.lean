/-! ===== bits: rows of digits, sets ===== -/
theorem nI_xor (a b : Nat) : nI a ^^^ nI b = nI (a ^^^ b) := by
  apply Int32.toBitVec_inj.mp
  show (BitVec.ofNat 32 a) ^^^ (BitVec.ofNat 32 b) = BitVec.ofNat 32 (a ^^^ b)
  exact (BitVec.ofNat_xor ..).symm
theorem bv_andn (x m : BitVec 32) : x &&& (m ^^^ (-1#32)) = x ^^^ (x &&& m) := by
  have e : (-1#32) = BitVec.allOnes 32 := by decide
  rw [e]
  ext i hi
  simp only [BitVec.getElem_and, BitVec.getElem_xor, BitVec.getElem_allOnes]
  cases x[i] <;> cases m[i] <;> rfl
theorem nI_andn (a m : Nat) : nI a &&& (nI m ^^^ (-1 : Int32)) = nI (a ^^^ (a &&& m)) := by
  rw [← nI_xor, ← nI_and]
  apply Int32.toBitVec_inj.mp
  exact bv_andn (BitVec.ofNat 32 a) (BitVec.ofNat 32 m)
theorem nI_nand (a m : Nat) : (nI m ^^^ (-1 : Int32)) &&& nI a = nI (a ^^^ (a &&& m)) := by
  rw [← nI_andn]
  apply Int32.toBitVec_inj.mp
  exact BitVec.and_comm ..
theorem tb (x i : Nat) : x / 2 ^ i % 2 = 1 ↔ x.testBit i = true := by
  rw [Nat.testBit_eq_decide_div_mod_eq]; simp
theorem nI_bit {x i : Nat} (hx : x < 2 ^ 31) (hi : i < 32) : (nI x >>> (nI i &&& 31)) &&& 1 = 1 ↔ x.testBit i = true := by
  rw [nI_shr hx hi, nI_mod2, ← tb]
  have : x / 2 ^ i % 2 < 2 := Nat.mod_lt _ (by decide)
  exact nI_eq (b := 1) (by omega) (by decide)
theorem d4_and {a b x y : Nat} (hx : x < 4) (hy : y < 4) : (a * 4 + x) &&& (b * 4 + y) = (a &&& b) * 4 + (x &&& y) := by
  have h1 : ((a * 4 + x) &&& (b * 4 + y)) / 2 ^ 2 = a &&& b := by
    rw [Nat.and_div_two_pow, show (a * 4 + x) / 2 ^ 2 = a by omega, show (b * 4 + y) / 2 ^ 2 = b by omega]
  have h2 : ((a * 4 + x) &&& (b * 4 + y)) % 2 ^ 2 = x &&& y := by
    rw [Nat.and_mod_two_pow, show (a * 4 + x) % 2 ^ 2 = x by omega, show (b * 4 + y) % 2 ^ 2 = y by omega]
  generalize (a * 4 + x) &&& (b * 4 + y) = z at *
  generalize a &&& b = p at *
  generalize x &&& y = q at *
  omega
theorem d4_or {a b x y : Nat} (hx : x < 4) (hy : y < 4) : (a * 4 + x) ||| (b * 4 + y) = (a ||| b) * 4 + (x ||| y) := by
  have h1 : ((a * 4 + x) ||| (b * 4 + y)) / 2 ^ 2 = a ||| b := by
    rw [Nat.or_div_two_pow, show (a * 4 + x) / 2 ^ 2 = a by omega, show (b * 4 + y) / 2 ^ 2 = b by omega]
  have h2 : ((a * 4 + x) ||| (b * 4 + y)) % 2 ^ 2 = x ||| y := by
    rw [Nat.or_mod_two_pow, show (a * 4 + x) % 2 ^ 2 = x by omega, show (b * 4 + y) % 2 ^ 2 = y by omega]
  generalize (a * 4 + x) ||| (b * 4 + y) = z at *
  generalize a ||| b = p at *
  generalize x ||| y = q at *
  omega
theorem d4_xor {a b x y : Nat} (hx : x < 4) (hy : y < 4) : (a * 4 + x) ^^^ (b * 4 + y) = (a ^^^ b) * 4 + (x ^^^ y) := by
  have h1 : ((a * 4 + x) ^^^ (b * 4 + y)) / 2 ^ 2 = a ^^^ b := by
    rw [Nat.xor_div_two_pow, show (a * 4 + x) / 2 ^ 2 = a by omega, show (b * 4 + y) / 2 ^ 2 = b by omega]
  have h2 : ((a * 4 + x) ^^^ (b * 4 + y)) % 2 ^ 2 = x ^^^ y := by
    rw [Nat.xor_mod_two_pow, show (a * 4 + x) % 2 ^ 2 = x by omega, show (b * 4 + y) % 2 ^ 2 = y by omega]
  generalize (a * 4 + x) ^^^ (b * 4 + y) = z at *
  generalize a ^^^ b = p at *
  generalize x ^^^ y = q at *
  omega
theorem en4_and : ∀ {V : Nat} {f g : Nat → Nat}, (∀ v, v < V → f v < 4) → (∀ v, v < V → g v < 4) → en 4 V f &&& en 4 V g = en 4 V (fun v => f v &&& g v)
  | 0, _, _, _, _ => by simp [en]
  | k + 1, f, g, hf, hg => by
    rw [en, en, en, d4_and (hf k (Nat.lt_succ_self k)) (hg k (Nat.lt_succ_self k)), en4_and (fun v hv => hf v (by omega)) (fun v hv => hg v (by omega))]
theorem en4_or : ∀ {V : Nat} {f g : Nat → Nat}, (∀ v, v < V → f v < 4) → (∀ v, v < V → g v < 4) → en 4 V f ||| en 4 V g = en 4 V (fun v => f v ||| g v)
  | 0, _, _, _, _ => by simp [en]
  | k + 1, f, g, hf, hg => by
    rw [en, en, en, d4_or (hf k (Nat.lt_succ_self k)) (hg k (Nat.lt_succ_self k)), en4_or (fun v hv => hf v (by omega)) (fun v hv => hg v (by omega))]
theorem en4_xor : ∀ {V : Nat} {f g : Nat → Nat}, (∀ v, v < V → f v < 4) → (∀ v, v < V → g v < 4) → en 4 V f ^^^ en 4 V g = en 4 V (fun v => f v ^^^ g v)
  | 0, _, _, _, _ => by simp [en]
  | k + 1, f, g, hf, hg => by
    rw [en, en, en, d4_xor (hf k (Nat.lt_succ_self k)) (hg k (Nat.lt_succ_self k)), en4_xor (fun v hv => hf v (by omega)) (fun v hv => hg v (by omega))]
theorem en_0 {b : Nat} : ∀ {V : Nat}, en b V (fun _ => 0) = 0
  | 0 => rfl
  | k + 1 => by rw [en, en_0]; omega
theorem en_e0 {b : Nat} (hb : 0 < b) : ∀ {V : Nat} {f : Nat → Nat}, en b V f = 0 ↔ ∀ v, v < V → f v = 0
  | 0, _ => by simp [en]
  | k + 1, f => by
    rw [en]
    constructor
    · intro h v hv
      have h2 : f k = 0 := by omega
      have h3 : en b k f = 0 := by
        have : en b k f * b = 0 := by omega
        rcases Nat.mul_eq_zero.mp this with z | z
        · exact z
        · omega
      rcases Nat.lt_or_ge v k with z | z
      · exact (en_e0 hb).mp h3 v z
      · have : v = k := by omega
        rw [this]; exact h2
    · intro h
      rw [(en_e0 hb).mpr (fun v hv => h v (by omega)), h k (by omega)]
      omega
theorem en_one {b V j x : Nat} (hj : j < V) : en b V (fun v => if v = j then x else 0) = x * b ^ (V - 1 - j) := by
  have := en_ud (b := b) (m := fun _ => 0) (x := x) hj
  rw [en_0] at this
  simp only [Nat.zero_mul, Nat.add_zero, Nat.zero_add] at this
  exact this
/-- a mask cut to V digits -/
theorem msk {V R M : Nat} (hR : R < 4 ^ V) : R &&& M = R &&& (M % 4 ^ V) := by
  have h := Nat.and_mod_two_pow (a := R) (b := M) (n := 2 * V)
  rw [← p42] at h
  have h2 : R &&& M < 4 ^ V := Nat.lt_of_le_of_lt Nat.and_le_left hR
  rw [Nat.mod_eq_of_lt h2, Nat.mod_eq_of_lt hR] at h
  exact h
theorem cst {V M d : Nat} (hV : V ≤ 8) (h : ∀ W, W < 9 → M % 4 ^ W = en 4 W (fun _ => d)) : M % 4 ^ V = en 4 V (fun _ => d) := h V (by omega)
theorem m5 : ∀ W, W < 9 → 21845 % 4 ^ W = en 4 W (fun _ => 1) := by decide
theorem mA : ∀ W, W < 9 → 43690 % 4 ^ W = en 4 W (fun _ => 2) := by decide
theorem mF : ∀ W, W < 9 → 65535 % 4 ^ W = en 4 W (fun _ => 3) := by decide
theorem dd1 : ∀ x, x < 4 → ∀ c, c < 2 → (x ||| (2 * c + x / 2)) &&& 1 = if x = 0 then 0 else 1 := by decide
theorem dd2 : ∀ x, x < 4 → (x &&& 2 = 0 ↔ x ≤ 1) := by decide
theorem dd3 : ∀ x, x < 4 → x &&& 3 = x := by decide
theorem dd4 : ∀ x, x < 4 → x ^^^ (x &&& 3) = 0 := by decide
theorem dd5 : ∀ x, x < 4 → ∀ y, y < 4 → (x ^^^ y = 0 ↔ x = y) := by decide
/-- which digits aren't 0 -/
theorem en4_nz : ∀ {V : Nat} {f : Nat → Nat}, (∀ v, v < V → f v < 4) → (en 4 V f ||| en 4 V f / 2) &&& en 4 V (fun _ => 1) = en 4 V (fun v => if f v = 0 then 0 else 1)
  | 0, _, _ => by simp [en]
  | k + 1, f, hf => by
    have hk := hf k (Nat.lt_succ_self k)
    have ih := en4_nz (fun v hv => hf v (by omega) : ∀ v, v < k → f v < 4)
    rw [en, en, en]
    generalize en 4 k f = a at *
    have e : (a * 4 + f k) / 2 = a / 2 * 4 + (2 * (a % 2) + f k / 2) := by omega
    rw [e, d4_or hk (by omega), d4_and (Nat.or_lt_two_pow (n := 2) hk (by omega)) (by decide), ih, dd1 _ hk _ (Nat.mod_lt _ (by decide))]
/-- bits laid out two by two -/
def sp2 : Nat → Nat → Nat
  | 0, _ => 0
  | k + 1, s => sp2 k (s / 2) * 4 + s % 2
theorem sp2_en : ∀ {V : Nat} {f : Nat → Nat}, (∀ v, v < V → f v < 2) → sp2 V (en 2 V f) = en 4 V f
  | 0, _, _ => rfl
  | k + 1, f, hf => by
    have hk := hf k (Nat.lt_succ_self k)
    rw [sp2, en, show (en 2 k f * 2 + f k) / 2 = en 2 k f by omega, show (en 2 k f * 2 + f k) % 2 = f k by omega, sp2_en (fun v hv => hf v (by omega)), en]
theorem sp2_0 : ∀ {k : Nat}, sp2 k 0 = 0
  | 0 => rfl
  | k + 1 => by rw [sp2, Nat.zero_div, sp2_0]
theorem sp2_s : ∀ {k s : Nat}, s < 2 ^ k → sp2 (k + 1) s = sp2 k s
  | 0, s, h => by
    have : s = 0 := by omega
    subst this; rfl
  | k + 1, s, h => by
    show sp2 (k + 1) (s / 2) * 4 + s % 2 = sp2 k (s / 2) * 4 + s % 2
    rw [sp2_s (by rw [Nat.pow_succ] at h; omega)]
theorem sp2_w : ∀ {d k s : Nat}, s < 2 ^ k → sp2 (k + d) s = sp2 k s
  | 0, _, _, _ => rfl
  | d + 1, k, s, h => by
    rw [← Nat.add_assoc, sp2_s (Nat.lt_of_lt_of_le h (Nat.pow_le_pow_right (by decide) (by omega))), sp2_w h]
def nar (p : Nat) : Nat :=
  ((((p ||| p / 2) &&& 13107) ||| ((p ||| p / 2) &&& 13107) / 4) &&& 3855 ||| ((((p ||| p / 2) &&& 13107) ||| ((p ||| p / 2) &&& 13107) / 4) &&& 3855) / 16) &&& 255
theorem nar_sp : ∀ s, s < 256 → nar (sp2 8 s) = s := by decide +kernel
theorem nar_en {V : Nat} {f : Nat → Nat} (hV : V ≤ 8) (hf : ∀ v, v < V → f v < 2) : nar (en 4 V f) = en 2 V f := by
  have h1 : en 2 V f < 2 ^ V := en_lt hf
  rw [← sp2_en hf, ← sp2_w (d := 8 - V) h1, show V + (8 - V) = 8 by omega]
  exact nar_sp _ (Nat.lt_of_lt_of_le h1 (Nat.le_trans (Nat.pow_le_pow_right (by decide) hV) (by decide)))
theorem s5_narrowed {h : zH} {Q : Option Value → zH → Prop} {p : Nat} (hp : p < 2 ^ 31) (H : Q (some (.int (nI (nar p)))) h) : zC mX5_narrowed [.int (nI p)] h Q := by
  have a1 : ∀ x, (x : Nat) &&& 13107 < 2 ^ 31 := fun x => Nat.lt_of_le_of_lt Nat.and_le_right (by decide)
  have a2 : ∀ x, (x : Nat) &&& 3855 < 2 ^ 31 := fun x => Nat.lt_of_le_of_lt Nat.and_le_right (by decide)
  refine nX5_narrowed _ _ _ (bX5_narrowed_0 _ _ _ ?_)
  rw [pk_shrN hp _ 1 (by decide +kernel), nI_or, nI_lit 13107, nI_and, pk_shrN (a1 _) _ 2 (by decide +kernel), nI_or, nI_lit 3855, nI_and, pk_shrN (a2 _) _ 4 (by decide +kernel), nI_or, nI_lit 255, nI_and]
  exact H
/-- the bits of sets of voters in rows -/
theorem s10_bitsInRows {h : zH} {Q : Option Value → zH → Prop} {t N V : Nat} {st wt : Nat → Nat} {s : Nat} (T : cT h t N V st wt) (hs : s < 2 ^ 31) (H : Q (some (.int (nI (en 4 V (fun v => if s.testBit v = true then 3 else 0))))) h) : zC mX10_bitsInRows [.ref t, .int (nI s)] h Q := by
  have hV := T.V8
  have L : ∀ (d j : Nat), j + d = V → zX mX10_bitsInRows 4 [.ref t, .int (nI s), .int (nI (en 4 V (fun v => if v < j ∧ s.testBit v = true then 3 else 0))), .int (nI j)] [] h Q := by
    intro d
    induction d with
    | zero =>
      intro j hj
      have : j = V := by omega
      subst this
      refine bX10_bitsInRows_4 _ _ _ _ _ _ ⟨T.o, br_t (by rw [T.e8]; exact nI_le (Nat.le_refl _) (by omega)) ?_⟩
      rw [en_congr (m' := fun v => if s.testBit v = true then 3 else 0) (fun v hv => by simp [hv])]
      exact H
    | succ d ih =>
      intro j hj
      refine bX10_bitsInRows_4 _ _ _ _ _ _ ⟨T.o, br_f (by rw [T.e8]; exact nI_ge (by omega) (by omega)) ⟨fun q => s10_shiftOf T (by omega) ⟨_, rfl, ?_⟩, fun q => ?_⟩⟩
      · rw [nI_bit hs (by omega)] at q
        have h3 : 3 * 2 ^ (2 * (V - 1 - j)) < 2 ^ 32 := Nat.lt_of_lt_of_le (Nat.mul_lt_mul_of_lt_of_le (show 3 < 4 by omega) (Nat.pow_le_pow_right (by decide) (show 2 * (V - 1 - j) ≤ 14 by omega)) (Nat.two_pow_pos _)) (by decide)
        rw [nI_lit 3, nI_shl (by omega) h3, ← p42, ← en_one (by omega), nI_or, en4_or (fun v _ => by split <;> omega) (fun v _ => by split <;> omega), nI_1]
        rw [en_congr (m' := fun v => if v < j + 1 ∧ s.testBit v = true then 3 else 0) (fun v hv => ?_)]
        · exact ih (j + 1) (by omega)
        · by_cases z : v = j
          · subst z; simp [q]
          · by_cases z2 : v < j
            · by_cases z3 : s.testBit v = true
              · simp [z, z2, z3, show v < j + 1 by omega]
              · simp [z, z3]
            · simp [z, z2, show ¬ v < j + 1 by omega]
      · rw [nI_bit hs (by omega)] at q
        rw [nI_1]
        rw [en_congr (m' := fun v => if v < j + 1 ∧ s.testBit v = true then 3 else 0) (fun v hv => ?_)]
        · exact ih (j + 1) (by omega)
        · by_cases z : v = j
          · subst z; simp [q]
          · by_cases z2 : v < j
            · simp [z2, show v < j + 1 by omega]
            · simp [z2, show ¬ v < j + 1 by omega]
  refine nX10_bitsInRows _ _ _ _ (bX10_bitsInRows_0 _ _ _ _ ?_)
  have := L V 0 (by omega)
  rw [en_congr (m' := fun _ => 0) (fun v _ => by simp), en_0] at this
  exact this
/-- a mark set -/
theorem s10_withMark {h : zH} {Q : Option Value → zH → Prop} {t N V : Nat} {st wt mk : Nat → Nat} {v m : Nat} (T : cT h t N V st wt) (hv : v < V) (hm : ∀ v, v < V → mk v ≤ 3) (h3 : m ≤ 3) (H : Q (some (.int (nI (en 4 V (ud mk v m))))) h) : zC mX10_withMark [.ref t, .int (nI (en 4 V mk)), .int (nI v), .int (nI m)] h Q := by
  have hV := T.V8
  have hb : ∀ x, x < 4 → x * 2 ^ (2 * (V - 1 - v)) < 2 ^ 32 := fun x hx => Nat.lt_of_lt_of_le (Nat.mul_lt_mul_of_lt_of_le hx (Nat.pow_le_pow_right (by decide) (show 2 * (V - 1 - v) ≤ 14 by omega)) (Nat.two_pow_pos _)) (by decide)
  refine nX10_withMark _ _ _ _ _ _ (bX10_withMark_0 _ _ _ _ _ _ ⟨T.o, s10_shiftOf T hv ⟨_, rfl, T.o, s10_shiftOf T hv ⟨_, rfl, ?_⟩⟩⟩)
  rw [nI_lit 3, nI_shl (by omega) (hb 3 (by omega)), nI_shl (by omega) (hb m (by omega)), nI_andn, nI_or, ← p42, ← en_one hv, ← en_one hv]
  have f1 : ∀ w, w < V → (if w = v then 3 else 0) < 4 := fun w _ => by split <;> omega
  have f2 : ∀ w, w < V → (if w = v then m else 0) < 4 := fun w _ => by split <;> omega
  have f3 : ∀ w, w < V → mk w < 4 := fun w hw => Nat.lt_succ_of_le (hm w hw)
  have f4 : ∀ w, w < V → mk w &&& (if w = v then 3 else 0) < 4 := fun w hw => Nat.and_lt_two_pow (n := 2) _ (f1 w hw)
  rw [en4_and f3 f1, en4_xor f3 f4, en4_or (fun w hw => Nat.xor_lt_two_pow (n := 2) (f3 w hw) (f4 w hw)) f2]
  rw [en_congr (m' := ud mk v m) (fun w hw => ?_)]
  · exact H
  · unfold ud
    by_cases z : w = v
    · simp only [if_pos z, dd4 _ (f3 w hw), Nat.zero_or]
    · simp only [if_neg z, Nat.and_zero, Nat.xor_zero, Nat.or_zero]
/-- can a row be -/
theorem s10_canBe {h : zH} {Q : Option Value → zH → Prop} {t N V : Nat} {st wt : Nat → Nat} {r : Nat} (T : cT h t N V st wt) (hr : r < 4 ^ V) (H1 : (∀ v, v < V → dg 4 V r v ≤ N) → Q (some (.int 1)) h) (H0 : ¬ (∀ v, v < V → dg 4 V r v ≤ N) → Q (some (.int 0)) h) : zC mX10_canBe [.ref t, .int (nI r)] h Q := by
  have hV := T.V8
  have hN := T.N3
  have h16 : r < 65536 := Nat.lt_of_lt_of_le hr (Nat.le_trans (Nat.pow_le_pow_right (by decide) hV) (by decide))
  have er : r = en 4 V (dg 4 V r) := (en_dg (by decide) hr).symm
  have d4 : ∀ v, v < V → dg 4 V r v < 4 := fun v _ => dg_lt (by decide)
  refine nX10_canBe _ _ _ _ (bX10_canBe_0 _ _ _ _ ⟨T.o, ?_⟩)
  rw [T.e6]
  have nk : ∀ a : Nat, a < 2 ^ 31 → (nI N = nI a → N = a) := fun a ha e => (nI_eq (by omega) ha).mp e
  refine ⟨fun q => ?_, fun q => ?_, fun q => ?_, fun q1 q2 q3 => ?_⟩
  · have := nk 0 (by decide) q; subst this
    have e : nI r = 0 ↔ ∀ v, v < V → dg 4 V r v ≤ 0 := by
      rw [← nI_0, nI_eq (by omega) (by decide)]
      have := en_e0 (b := 4) (by decide) (V := V) (f := dg 4 V r)
      rw [← er] at this
      rw [this]
      exact ⟨fun z v hv => Nat.le_of_eq (z v hv), fun z v hv => Nat.le_zero.mp (z v hv)⟩
    exact bX10_canBe_32 _ _ _ ⟨fun z => H1 (e.mp z), fun z => H0 (fun y => z (e.mpr y))⟩
  · have := nk 1 (by decide) q; subst this
    have e : nI r &&& 43690 = 0 ↔ ∀ v, v < V → dg 4 V r v ≤ 1 := by
      rw [nI_lit 43690, nI_and, ← nI_0, nI_eq (by have := Nat.and_le_left (n := r) (m := 43690); omega) (by decide), msk hr, cst hV mA]
      have := en_e0 (b := 4) (by decide) (V := V) (f := fun v => dg 4 V r v &&& 2)
      rw [← en4_and d4 (fun _ _ => by decide), ← er] at this
      rw [this]
      exact ⟨fun z v hv => (dd2 _ (d4 v hv)).mp (z v hv), fun z v hv => (dd2 _ (d4 v hv)).mpr (z v hv)⟩
    exact bX10_canBe_42 _ _ _ ⟨fun z => H1 (e.mp z), fun z => H0 (fun y => z (e.mpr y))⟩
  · have := nk 2 (by decide) q; subst this
    have e : (nI r &&& (nI r >>> ((1 : Int32) &&& 31))) &&& 21845 = 0 ↔ ∀ v, v < V → dg 4 V r v ≤ 2 := by
      rw [pk_shrN (by omega) _ 1 (by decide +kernel), nI_and, nI_lit 21845, nI_and, ← nI_0, nI_eq (by have := Nat.and_le_right (n := r &&& r / 2 ^ 1) (m := 21845); omega) (by decide), msk (Nat.lt_of_le_of_lt Nat.and_le_left hr), cst hV m5]
      have key : ∀ {W : Nat} {f : Nat → Nat}, (∀ v, v < W → f v < 4) → ((en 4 W f &&& en 4 W f / 2) &&& en 4 W (fun _ => 1) = 0 ↔ ∀ v, v < W → f v ≤ 2) := by
        intro W
        induction W with
        | zero => intro f _; simp [en]
        | succ k ih =>
          intro f hf
          have hk := hf k (Nat.lt_succ_self k)
          have ih := ih (fun v hv => hf v (by omega) : ∀ v, v < k → f v < 4)
          rw [en, en]
          generalize en 4 k f = a at *
          have e : (a * 4 + f k) / 2 = a / 2 * 4 + (2 * (a % 2) + f k / 2) := by omega
          have dd : ∀ x, x < 4 → ∀ c, c < 2 → ((x &&& (2 * c + x / 2)) &&& 1 = 0 ↔ x ≤ 2) := by decide
          rw [e, d4_and hk (by omega), d4_and (Nat.and_lt_two_pow (n := 2) _ (by omega)) (by decide)]
          have d1 := dd _ hk _ (Nat.mod_lt a (by decide : 2 > 0))
          constructor
          · intro z v hv
            rcases Nat.lt_or_ge v k with y | y
            · exact ih.mp (by omega) v y
            · have : v = k := by omega
              rw [this]; exact d1.mp (by omega)
          · intro z
            have z1 := ih.mpr (fun v hv => z v (by omega))
            have z2 := d1.mpr (z k (by omega))
            omega
      have := key d4
      rw [← er] at this
      exact this
    exact bX10_canBe_55 _ _ _ ⟨fun z => H1 (e.mp z), fun z => H0 (fun y => z (e.mpr y))⟩
  · have : N = 3 := by
      have n0 : N ≠ 0 := fun e => q1 (by rw [e]; rfl)
      have n1 : N ≠ 1 := fun e => q2 (by rw [e]; rfl)
      have n2 : N ≠ 2 := fun e => q3 (by rw [e]; rfl)
      omega
    subst this
    exact bX10_canBe_73 _ _ (H1 (fun v hv => Nat.le_of_lt_succ (d4 v hv)))

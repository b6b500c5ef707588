/-! ===== tokens, pure ===== -/
section
/-- as long as p holds, from i on, at most up to n -/
def rnF (p : Nat → Bool) : Nat → Nat → Nat
  | 0, i => i
  | d + 1, i => if p i = true then rnF p d (i + 1) else i
def rnn (n : Nat) (p : Nat → Bool) (i : Nat) : Nat := rnF p (n - i) i
variable {n i k d e : Nat} {p : Nat → Bool} {bs : Nat → Nat}
theorem rnn_s (hi : i < n) (hp : p i = true) : rnn n p i = rnn n p (i + 1) := by
  unfold rnn
  obtain ⟨d, hd⟩ : ∃ d, n - i = d + 1 := ⟨n - i - 1, by omega⟩
  rw [hd, rnF, if_pos hp, show n - (i + 1) = d by omega]
theorem rnn_f (hp : p i = false) : rnn n p i = i := by
  unfold rnn
  generalize n - i = d
  cases d with
  | zero => rfl
  | succ d => rw [rnF, hp]; rfl
theorem rnn_n (hi : n ≤ i) : rnn n p i = i := by
  unfold rnn
  rw [show n - i = 0 by omega]; rfl
theorem rnF_b : ∀ (d i : Nat), i ≤ rnF p d i ∧ rnF p d i ≤ i + d ∧ (∀ k, i ≤ k → k < rnF p d i → p k = true) ∧ (rnF p d i < i + d → p (rnF p d i) = false)
  | 0, i => ⟨Nat.le_refl _, Nat.le_refl _, fun k h1 h2 => absurd h2 (by show ¬ k < i; omega), fun z => absurd z (by show ¬ i < i; omega)⟩
  | d + 1, i => by
    rw [rnF]
    by_cases w : p i = true
    · rw [if_pos w]
      obtain ⟨a, b, c, e⟩ := rnF_b d (i + 1)
      refine ⟨by omega, by omega, fun k h1 h2 => ?_, fun z => e (by omega)⟩
      by_cases z : k = i
      · rw [z]; exact w
      · exact c k (by omega) h2
    · rw [if_neg w]
      exact ⟨Nat.le_refl _, by omega, fun k h1 h2 => absurd h2 (by omega), fun _ => by simpa using w⟩
theorem rnn_ge : i ≤ rnn n p i := (rnF_b (n - i) i).1
theorem rnn_le (hi : i ≤ n) : rnn n p i ≤ n := by have := (rnF_b (p := p) (n - i) i).2.1; unfold rnn; omega
theorem rnn_all (h1 : i ≤ k) (h2 : k < rnn n p i) : p k = true := (rnF_b (n - i) i).2.2.1 k h1 h2
theorem rnn_stop (hi : i ≤ n) (h : rnn n p i < n) : p (rnn n p i) = false := (rnF_b (n - i) i).2.2.2 (by unfold rnn at h; omega)
theorem rnn_gt (hi : i < n) (hp : p i = true) : i < rnn n p i := by rw [rnn_s hi hp]; exact Nat.lt_of_lt_of_le (Nat.lt_succ_self i) rnn_ge
def isBn (c : Nat) : Bool := c == 32 || c == 10
def isLn (c : Nat) : Bool := Nat.ble 97 c && Nat.ble c 122
def isDn (c : Nat) : Bool := Nat.ble 48 c && Nat.ble c 57
theorem isLn_iff {c : Nat} : isLn c = true ↔ 97 ≤ c ∧ c ≤ 122 := by rw [isLn, Bool.and_eq_true, Nat.ble_eq, Nat.ble_eq]
theorem isDn_iff {c : Nat} : isDn c = true ↔ 48 ≤ c ∧ c ≤ 57 := by rw [isDn, Bool.and_eq_true, Nat.ble_eq, Nat.ble_eq]
theorem isBn_iff {c : Nat} : isBn c = true ↔ c = 32 ∨ c = 10 := by rw [isBn, Bool.or_eq_true, beq_iff_eq, beq_iff_eq]
def sgL : List Nat := [59, 40, 41, 60, 62, 61, 43, 45]
def sgx (c : Nat) : Nat := sgL.idxOf c
/-- a word's value: five bits a letter; a number's -/
def wv (bs : Nat → Nat) (a : Nat) : Nat → Nat
  | 0 => 0
  | d + 1 => 32 * wv bs a d + (bs (a + d) - 96)
def nv (bs : Nat → Nat) (a : Nat) : Nat → Nat
  | 0 => 0
  | d + 1 => 10 * nv bs a d + (bs (a + d) - 48)
/-- and eight bits a letter -/
def mv (bs : Nat → Nat) (a : Nat) : Nat → Nat
  | 0 => 0
  | d + 1 => 256 * mv bs a d + bs (a + d)
def cvF : Nat → Nat → Nat
  | 0, _ => 0
  | d + 1, x => if x = 0 then 0 else 256 * cvF d (x / 32) + (x % 32 + 96)
def cv (x : Nat) : Nat := cvF x x
theorem cvF_st : ∀ (d d' x : Nat), x ≤ d → x ≤ d' → cvF d x = cvF d' x
  | 0, d', x, h, _ => by
    have : x = 0 := by omega
    subst this
    cases d' with
    | zero => rfl
    | succ d' => rw [cvF, cvF, if_pos rfl]
  | d + 1, d', x, h, h' => by
    by_cases z : x = 0
    · subst z
      cases d' with
      | zero => rw [cvF, cvF, if_pos rfl]
      | succ d' => rw [cvF, cvF, if_pos rfl, if_pos rfl]
    · cases d' with
      | zero => omega
      | succ d' => rw [cvF, cvF, if_neg z, if_neg z, cvF_st d d' (x / 32) (by omega) (by omega)]
theorem cv_0 : cv 0 = 0 := rfl
theorem cv_s {x : Nat} (h : x ≠ 0) : cv x = 256 * cv (x / 32) + (x % 32 + 96) := by
  have e : cv x = cvF (x - 1 + 1) x := by unfold cv; exact cvF_st _ _ _ (by omega) (by omega)
  rw [e, cvF, if_neg h, cvF_st (x - 1) (x / 32) (x / 32) (by omega) (by omega)]; rfl
theorem cv_inj : ∀ (m x y : Nat), x ≤ m → cv x = cv y → x = y
  | 0, x, y, h, e => by
    have : x = 0 := by omega
    subst this
    by_cases z : y = 0
    · exact z.symm
    · rw [cv_0, cv_s z] at e; omega
  | m + 1, x, y, h, e => by
    by_cases z : x = 0
    · subst z
      by_cases w : y = 0
      · exact w.symm
      · rw [cv_0, cv_s w] at e; omega
    · by_cases w : y = 0
      · subst w; rw [cv_0, cv_s z] at e; omega
      · rw [cv_s z, cv_s w] at e
        have := cv_inj m (x / 32) (y / 32) (by omega) (by omega)
        omega
theorem cv_iff {x y : Nat} : cv x = cv y ↔ x = y := ⟨cv_inj x x y (Nat.le_refl _), fun e => by rw [e]⟩
theorem mv_cv {a : Nat} : ∀ d, (∀ k, k < d → isLn (bs (a + k)) = true) → mv bs a d = cv (wv bs a d)
  | 0, _ => rfl
  | d + 1, h => by
    have l := isLn_iff.mp (h d (Nat.lt_succ_self d))
    rw [mv, wv, cv_s (by omega), mv_cv d (fun k hk => h k (by omega)), show (32 * wv bs a d + (bs (a + d) - 96)) / 32 = wv bs a d by omega]
    omega
theorem wv_lt {a : Nat} : ∀ d, (∀ k, k < d → isLn (bs (a + k)) = true) → wv bs a d < 32 ^ d
  | 0, _ => by show (0 : Nat) < 1; decide
  | d + 1, h => by
    have l := isLn_iff.mp (h d (Nat.lt_succ_self d))
    have := wv_lt d (fun k hk => h k (by omega))
    rw [wv, Nat.pow_succ]; omega
theorem nv_lt {a : Nat} : ∀ d, (∀ k, k < d → isDn (bs (a + k)) = true) → nv bs a d < 10 ^ d
  | 0, _ => by show (0 : Nat) < 1; decide
  | d + 1, h => by
    have l := isDn_iff.mp (h d (Nat.lt_succ_self d))
    have := nv_lt d (fun k hk => h k (by omega))
    rw [nv, Nat.pow_succ]; omega
theorem mv_lt {a : Nat} : ∀ d, (∀ k, k < d → isLn (bs (a + k)) = true) → mv bs a d < 128 * 256 ^ d ∧ mv bs a d < 256 ^ d
  | 0, _ => by show (0 : Nat) < 128 * 1 ∧ (0 : Nat) < 1; decide
  | d + 1, h => by
    have l := isLn_iff.mp (h d (Nat.lt_succ_self d))
    have := mv_lt d (fun k hk => h k (by omega))
    rw [mv, Nat.pow_succ]; omega
/-- the own words -/
def ownL : List Nat := [460197, 659100852, 23580850, 52, 777297172, 68563444, 294, 663726, 176741, 2491851, 51, 441972, 302, 207328884, 498, 1476, 14836, 23580851, 79739251, 307]
def kwx (x : Nat) : Nat := ownL.idxOf x
theorem kwx_le {x : Nat} : kwx x ≤ 20 := List.idxOf_le_length
theorem kwx_lt {x : Nat} (h : kwx x < 20) : ownL[kwx x]? = some x := by
  have h' : ownL.idxOf x < ownL.length := h
  unfold kwx
  rw [List.getElem?_eq_getElem h', List.getElem_idxOf h']
theorem kwx_of {k x : Nat} (h : ownL[k]? = some x) : kwx x = k := by
  have hk : k < 20 := (List.getElem?_eq_some_iff.mp h).1
  have : ∀ k, k < 20 → kwx (ownL.getD k 0) = k := by decide +kernel
  have e := this k hk
  rw [List.getD_eq_getElem?_getD, h] at e
  exact e
/-- a token: (kind, start, value, end) -/
abbrev zTk : Type := Nat × Nat × Nat × Nat
def lexT (n : Nat) (bs : Nat → Nat) (e : Nat) : zTk :=
  let a := rnn n (fun i => isBn (bs i)) e
  if n ≤ a then (30, n, 0, n)
  else if isLn (bs a) = true then
    let z := rnn n (fun i => isLn (bs i)) a
    if 8 < z - a then (31, a, 0, z) else (kwx (wv bs a (z - a)), a, wv bs a (z - a), z)
  else if isDn (bs a) = true then
    let z := rnn n (fun i => isDn (bs i)) a
    if 4 < z - a ∨ (z < n ∧ isLn (bs z) = true) then (31, a, 0, z) else (21, a, nv bs a (z - a), z)
  else if sgx (bs a) < 8 then (22 + sgx (bs a), a, 0, a + 1) else (31, a, 0, a + 1)
def tk (n : Nat) (bs : Nat → Nat) : Nat → zTk
  | 0 => lexT n bs 0
  | i + 1 => lexT n bs (tk n bs i).2.2.2
def fin (t : zTk) : Prop := t.1 = 30 ∨ t.1 = 31
theorem lexT_b {e : Nat} (he : e ≤ n) : (lexT n bs e).1 ≤ 31 ∧ (lexT n bs e).2.1 ≤ n ∧ (lexT n bs e).2.2.2 ≤ n ∧ e ≤ (lexT n bs e).2.1 ∧ (lexT n bs e).2.1 ≤ (lexT n bs e).2.2.2 ∧ ((lexT n bs e).1 ≠ 30 → (lexT n bs e).2.1 < (lexT n bs e).2.2.2) := by
  have a1 := rnn_le (p := fun i => isBn (bs i)) he
  have a2 := @rnn_ge n e (fun i => isBn (bs i))
  unfold lexT
  simp only []
  generalize rnn n (fun i => isBn (bs i)) e = a at *
  by_cases h1 : n ≤ a
  · rw [if_pos h1]; exact ⟨(by decide : (30 : Nat) ≤ 31), Nat.le_refl n, Nat.le_refl n, he, Nat.le_refl n, fun z => absurd rfl z⟩
  · rw [if_neg h1]
    by_cases h2 : isLn (bs a) = true
    · rw [if_pos h2]
      have z1 := rnn_le (p := fun i => isLn (bs i)) a1
      have z2 := rnn_gt (n := n) (p := fun i => isLn (bs i)) (by omega : a < n) h2
      generalize rnn n (fun i => isLn (bs i)) a = z at *
      split
      · exact ⟨(by decide : (31 : Nat) ≤ 31), a1, z1, a2, Nat.le_of_lt z2, fun _ => z2⟩
      · exact ⟨Nat.le_trans kwx_le (by decide : (20 : Nat) ≤ 31), a1, z1, a2, Nat.le_of_lt z2, fun _ => z2⟩
    · rw [if_neg h2]
      by_cases h3 : isDn (bs a) = true
      · rw [if_pos h3]
        have z1 := rnn_le (p := fun i => isDn (bs i)) a1
        have z2 := rnn_gt (n := n) (p := fun i => isDn (bs i)) (by omega : a < n) h3
        generalize rnn n (fun i => isDn (bs i)) a = z at *
        split
        · exact ⟨(by decide : (31 : Nat) ≤ 31), a1, z1, a2, Nat.le_of_lt z2, fun _ => z2⟩
        · exact ⟨(by decide : (21 : Nat) ≤ 31), a1, z1, a2, Nat.le_of_lt z2, fun _ => z2⟩
      · rw [if_neg h3]
        have z1 : a + 1 ≤ n := by omega
        split
        · exact ⟨(by omega : 22 + sgx (bs a) ≤ 31), a1, z1, a2, Nat.le_succ a, fun _ => Nat.lt_succ_self a⟩
        · exact ⟨(by decide : (31 : Nat) ≤ 31), a1, z1, a2, Nat.le_succ a, fun _ => Nat.lt_succ_self a⟩
theorem tk_e : ∀ i, (tk n bs i).2.2.2 ≤ n
  | 0 => (lexT_b (Nat.zero_le n)).2.2.1
  | i + 1 => (lexT_b (tk_e i)).2.2.1
theorem tk_k (i : Nat) : (tk n bs i).1 ≤ 31 ∧ (tk n bs i).2.1 ≤ n := by
  cases i with
  | zero => exact ⟨(lexT_b (Nat.zero_le n)).1, (lexT_b (Nat.zero_le n)).2.1⟩
  | succ i => exact ⟨(lexT_b (tk_e i)).1, (lexT_b (tk_e i)).2.1⟩
/-- tokens that are none of the last take a byte each -/
theorem tk_far : ∀ i, (∀ j, j ≤ i → (tk n bs j).1 ≠ 30) → i + 1 ≤ (tk n bs i).2.2.2
  | 0, h => by
    have b := lexT_b (bs := bs) (Nat.zero_le n)
    have := b.2.2.2.2.2 (h 0 (Nat.le_refl _))
    show 0 + 1 ≤ (lexT n bs 0).2.2.2
    omega
  | i + 1, h => by
    have r := tk_far i (fun j hj => h j (by omega))
    have b := lexT_b (bs := bs) (tk_e (n := n) (bs := bs) i)
    have := b.2.2.2.2.2 (h (i + 1) (Nat.le_refl _))
    show i + 1 + 1 ≤ (lexT n bs (tk n bs i).2.2.2).2.2.2
    omega
theorem tk_few {i : Nat} (h : ∀ j, j < i → (tk n bs j).1 ≠ 30) : i ≤ n := by
  cases i with
  | zero => omega
  | succ i => exact Nat.le_trans (tk_far i (fun j hj => h j (by omega))) (tk_e i)
/-- behind the end stands the end -/
theorem tk_end {i : Nat} (h : (tk n bs i).1 = 30) : tk n bs (i + 1) = (30, n, 0, n) ∧ tk n bs i = (30, n, 0, n) := by
  have e30 : ∀ e, e ≤ n → (lexT n bs e).1 = 30 → lexT n bs e = (30, n, 0, n) := fun e he => by
    unfold lexT
    simp only []
    generalize rnn n (fun i => isBn (bs i)) e = a
    split
    · exact fun _ => rfl
    · split
      · split
        · exact fun z => absurd (show (31 : Nat) = 30 from z) (by decide)
        · exact fun z => absurd (show kwx _ = 30 from z) (by have := @kwx_le (wv bs a (rnn n (fun i => isLn (bs i)) a - a)); omega)
      · split
        · split
          · exact fun z => absurd (show (31 : Nat) = 30 from z) (by decide)
          · exact fun z => absurd (show (21 : Nat) = 30 from z) (by decide)
        · split
          · exact fun z => absurd (show 22 + sgx (bs a) = 30 from z) (by omega)
          · exact fun z => absurd (show (31 : Nat) = 30 from z) (by decide)
  have e1 : tk n bs i = (30, n, 0, n) := by
    cases i with
    | zero => exact e30 0 (Nat.zero_le n) h
    | succ i => exact e30 _ (tk_e i) h
  refine ⟨?_, e1⟩
  show lexT n bs (tk n bs i).2.2.2 = _
  rw [e1]
  unfold lexT
  simp only []
  rw [rnn_n (Nat.le_refl n), if_pos (Nat.le_refl n)]
/-! longs -/
theorem lN_tb (n : Nat) : (lN n).toBitVec = BitVec.ofNat 64 n := rfl
theorem lN_eq6 {a b : Nat} (ha : a < 2 ^ 64) (hb : b < 2 ^ 64) : lN a = lN b ↔ a = b := by
  refine ⟨fun h => ?_, fun h => by rw [h]⟩
  have := congrArg (fun x : Int64 => x.toBitVec.toNat) h
  simp only [lN_tb, BitVec.toNat_ofNat] at this
  omega
theorem lN_so (v : Nat) {c k : Nat} {s : Int64} (hk : k < 64) (hs : (s.toBitVec.smod 64).toNat = k) (hc : c < 2 ^ k) : (lN v <<< s) ||| lN c = lN (2 ^ k * v + c) := by
  apply Int64.toBitVec_inj.mp
  rw [Int64.toBitVec_or, Int64.toBitVec_shiftLeft, lN_tb, lN_tb, lN_tb, BitVec.shiftLeft_eq', hs]
  apply BitVec.eq_of_toNat_eq
  rw [BitVec.toNat_or, BitVec.toNat_shiftLeft, BitVec.toNat_ofNat, BitVec.toNat_ofNat, BitVec.toNat_ofNat, Nat.shiftLeft_eq]
  have p64 : (2 : Nat) ^ 64 = 2 ^ k * 2 ^ (64 - k) := by rw [← Nat.pow_add]; congr 1; omega
  have hk64 : 2 ^ k < 2 ^ 64 := Nat.pow_lt_pow_right (by decide) hk
  rw [Nat.mod_eq_of_lt (show c < 2 ^ 64 by omega)]
  have e1 : v % 2 ^ 64 * 2 ^ k % 2 ^ 64 = 2 ^ k * (v % 2 ^ (64 - k)) := by
    rw [Nat.mul_comm, Nat.mul_mod, Nat.mod_mod, ← Nat.mul_mod, p64, Nat.mul_mod_mul_left]
  rw [e1, ← Nat.two_pow_add_eq_or_of_lt hc]
  have e2 : (2 ^ k * v + c) % 2 ^ 64 = 2 ^ k * (v % 2 ^ (64 - k)) + c := by
    have d := Nat.div_add_mod v (2 ^ (64 - k))
    have r : v % 2 ^ (64 - k) < 2 ^ (64 - k) := Nat.mod_lt _ (Nat.two_pow_pos _)
    have : 2 ^ k * v + c = 2 ^ 64 * (v / 2 ^ (64 - k)) + (2 ^ k * (v % 2 ^ (64 - k)) + c) := by
      rw [p64, Nat.mul_assoc, ← Nat.add_assoc, ← Nat.mul_add, d]
    rw [this, Nat.mul_add_mod, Nat.mod_eq_of_lt]
    have h1 : 2 ^ k * (v % 2 ^ (64 - k) + 1) ≤ 2 ^ k * 2 ^ (64 - k) := Nat.mul_le_mul_left _ r
    rw [Nat.mul_add, ← p64] at h1
    omega
  exact e2.symm
end

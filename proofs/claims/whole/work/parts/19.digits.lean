/-! ===== rows of digits: the last voter's lowest ===== -/
def dg (b : Nat) : Nat → Nat → Nat → Nat
  | 0, _, _ => 0
  | k + 1, r, i => if i = k then r % b else dg b k (r / b) i
def en (b : Nat) : Nat → (Nat → Nat) → Nat
  | 0, _ => 0
  | k + 1, m => en b k m * b + m k
theorem en_congr {b : Nat} : ∀ {v : Nat} {m m' : Nat → Nat}, (∀ i, i < v → m i = m' i) → en b v m = en b v m'
  | 0, _, _, _ => rfl
  | k + 1, m, m', h => by rw [en, en, en_congr (fun i hi => h i (Nat.lt_succ_of_lt hi)), h k (Nat.lt_succ_self k)]
theorem en_lt {b : Nat} : ∀ {v : Nat} {m : Nat → Nat}, (∀ i, i < v → m i < b) → en b v m < b ^ v
  | 0, _, _ => by simp [en]
  | k + 1, m, h => by
    have h1 := en_lt (fun i hi => h i (Nat.lt_succ_of_lt hi) : ∀ i, i < k → m i < b)
    have h2 := h k (Nat.lt_succ_self k)
    rw [en, Nat.pow_succ]
    calc en b k m * b + m k < en b k m * b + b := by omega
      _ = (en b k m + 1) * b := by rw [Nat.add_mul, Nat.one_mul]
      _ ≤ b ^ k * b := Nat.mul_le_mul_right _ h1
theorem dg_en {b : Nat} : ∀ {v : Nat} {m : Nat → Nat}, (∀ i, i < v → m i < b) → ∀ i, i < v → dg b v (en b v m) i = m i
  | 0, _, _, i, hi => absurd hi (Nat.not_lt_zero i)
  | k + 1, m, h, i, hi => by
    have hk := h k (Nat.lt_succ_self k)
    have hb : 0 < b := by omega
    rw [dg, en]
    by_cases e : i = k
    · rw [if_pos e, e, Nat.mul_comm, Nat.mul_add_mod, Nat.mod_eq_of_lt hk]
    · rw [if_neg e]
      have : (en b k m * b + m k) / b = en b k m := by
        rw [Nat.mul_comm, Nat.mul_add_div hb, Nat.div_eq_of_lt hk, Nat.add_zero]
      rw [this]
      exact dg_en (fun j hj => h j (Nat.lt_succ_of_lt hj)) i (by omega)
theorem dg_lt {b : Nat} (hb : 0 < b) : ∀ {v r i : Nat}, dg b v r i < b
  | 0, _, _ => by simpa [dg] using hb
  | k + 1, r, i => by
    rw [dg]
    split
    · exact Nat.mod_lt _ hb
    · exact dg_lt hb
theorem en_dg {b : Nat} (hb : 0 < b) : ∀ {v r : Nat}, r < b ^ v → en b v (dg b v r) = r
  | 0, r, h => by simp at h; simp [en, h]
  | k + 1, r, h => by
    have h1 : r / b < b ^ k := by
      rw [Nat.div_lt_iff_lt_mul hb]; rw [Nat.pow_succ] at h; exact h
    have e : en b k (dg b (k + 1) r) = en b k (dg b k (r / b)) := en_congr (fun i hi => by rw [dg, if_neg (by omega)])
    rw [en, e, en_dg hb h1, dg, if_pos rfl]
    rw [Nat.mul_comm]; exact Nat.div_add_mod r b
theorem dg_div {b : Nat} : ∀ {v r i : Nat}, i < v → dg b v r i = r / b ^ (v - 1 - i) % b
  | 0, _, i, h => absurd h (Nat.not_lt_zero i)
  | k + 1, r, i, h => by
    rw [dg]
    by_cases e : i = k
    · rw [if_pos e, e, show k + 1 - 1 - k = 0 by omega, Nat.pow_zero, Nat.div_one]
    · rw [if_neg e, dg_div (by omega : i < k), show k + 1 - 1 - i = (k - 1 - i) + 1 by omega, Nat.pow_succ, Nat.mul_comm, Nat.div_div_eq_div_mul]
theorem en_inj {b : Nat} {v : Nat} {m m' : Nat → Nat} (h : ∀ i, i < v → m i < b) (h' : ∀ i, i < v → m' i < b) (e : en b v m = en b v m') : ∀ i, i < v → m i = m' i := fun i hi => by
  rw [← dg_en h i hi, e, dg_en h' i hi]
/-- a digit set -/
def ud (m : Nat → Nat) (k x : Nat) : Nat → Nat := fun j => if j = k then x else m j
theorem ud_s {m : Nat → Nat} {k x : Nat} : ud m k x k = x := by simp [ud]
theorem ud_n {m : Nat → Nat} {k x j : Nat} (h : j ≠ k) : ud m k x j = m j := by simp [ud, h]
theorem en_ud {b : Nat} : ∀ {v : Nat} {m : Nat → Nat} {k x : Nat}, k < v → en b v (ud m k x) + m k * b ^ (v - 1 - k) = en b v m + x * b ^ (v - 1 - k)
  | 0, _, k, _, h => absurd h (Nat.not_lt_zero k)
  | v + 1, m, k, x, h => by
    rw [en, en]
    by_cases e : k = v
    · subst e
      have : en b k (ud m k x) = en b k m := en_congr (fun i hi => ud_n (by omega))
      rw [this, ud_s, show k + 1 - 1 - k = 0 by omega, Nat.pow_zero]
      omega
    · have ih := @en_ud b v m k x (by omega)
      rw [ud_n (show v ≠ k by omega), show v + 1 - 1 - k = (v - 1 - k) + 1 by omega, Nat.pow_succ]
      have : (en b v (ud m k x) + m k * b ^ (v - 1 - k)) * b = (en b v m + x * b ^ (v - 1 - k)) * b := by rw [ih]
      rw [Nat.add_mul, Nat.add_mul] at this
      rw [← Nat.mul_assoc, ← Nat.mul_assoc]
      omega
/-! bits of numbers below 2^16, as the class has them: two a voter -/
theorem nI_and (a b : Nat) : nI a &&& nI b = nI (a &&& b) := by
  apply Int32.toBitVec_inj.mp
  show (BitVec.ofNat 32 a) &&& (BitVec.ofNat 32 b) = BitVec.ofNat 32 (a &&& b)
  exact (BitVec.ofNat_and ..).symm
theorem nI_or (a b : Nat) : nI a ||| nI b = nI (a ||| b) := by
  apply Int32.toBitVec_inj.mp
  show (BitVec.ofNat 32 a) ||| (BitVec.ofNat 32 b) = BitVec.ofNat 32 (a ||| b)
  exact (BitVec.ofNat_or ..).symm
theorem nI_shr {n k : Nat} (hn : n < 2 ^ 31) (hk : k < 32) : nI n >>> (nI k &&& 31) = nI (n / 2 ^ k) := by
  have : ∀ k, k < 32 → ((nI k &&& 31).toBitVec.smod 32).toNat = k := by decide +kernel
  exact pk_shrN hn _ k (this k hk)
theorem nI_shl {n k : Nat} (hk : k < 32) (h : n * 2 ^ k < 2 ^ 32) : nI n <<< (nI k &&& 31) = nI (n * 2 ^ k) := by
  have : ∀ k, k < 32 → ((nI k &&& 31).toBitVec.smod 32).toNat = k := by decide +kernel
  exact pk_shlN _ k (this k hk) h
theorem nI_lit (n : Nat) : (OfNat.ofNat n : Int32) = nI n := rfl
theorem nI_mod4 {n : Nat} : nI n &&& 3 = nI (n % 4) := by
  rw [nI_lit 3, nI_and, show (3 : Nat) = 2 ^ 2 - 1 from rfl, Nat.and_two_pow_sub_one_eq_mod]
theorem nI_mod2 {n : Nat} : nI n &&& 1 = nI (n % 2) := by
  rw [nI_lit 1, nI_and, show (1 : Nat) = 2 ^ 1 - 1 from rfl, Nat.and_two_pow_sub_one_eq_mod]

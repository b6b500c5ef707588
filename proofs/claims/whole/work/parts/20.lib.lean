/-! ===== frames by what is read; ints; sums ===== -/
theorem nI_mul (a b : Nat) : nI a * nI b = nI (a * b) := (Int32.ofNat_mul a b).symm
theorem nI_sub {a b : Nat} (h : b ≤ a) : nI a - nI b = nI (a - b) := by
  have : nI a = nI (a - b) + nI b := by rw [nI_add, Nat.sub_add_cancel h]
  rw [this, Int32.add_sub_cancel]
theorem nI_s1 (a : Nat) : nI a - 1 = nI a + (-1) := Int32.sub_eq_add_neg ..
theorem nI_dn (a : Nat) : nI (a + 1) + (-1) = nI a := by rw [← nI_s1]; exact nI_pred a
theorem nI_d0 : nI 0 + (-1) < 0 := by decide +kernel
theorem nI_d0' : nI 0 + (-1) = -1 := by decide +kernel
theorem nI_dlt {a : Nat} (h : a < 2 ^ 31) : nI a + (-1) < 0 ↔ a = 0 := by
  cases a with
  | zero => simp [nI_d0]
  | succ k => rw [nI_dn]; exact ⟨fun z => absurd z (nI_pos (by omega)), fun z => by cases z⟩
theorem ix8 (b v : Nat) : (8 : Int32) * nI b + nI v = nI (8 * b + v) := by rw [nI_lit 8, nI_mul, nI_add]
theorem ix640 (b v : Nat) : (640 : Int32) * nI b + nI v = nI (640 * b + v) := by rw [nI_lit 640, nI_mul, nI_add]
/-- what is read stays, but of rows X and fields Y; shapes stay; nothing is made -/
def fr (X : List Nat) (Y : List (Nat × Nat)) (h h' : zH) : Prop :=
  (h'.1 = h.1 ∧ h'.2.1 = h.2.1) ∧ (∀ k, k ∉ X → aI h' k = aI h k ∧ aL h' k = aL h k ∧ aR h' k = aR h k) ∧ (∀ k f, (k, f) ∉ Y → gF h' k f = gF h k f) ∧ (∀ k, aN h' k = aN h k) ∧ (∀ k c, oK h k c → oK h' k c) ∧ (∀ k t, iK h k t → iK h' k t) ∧ (∀ k, lK h k → lK h' k) ∧ (∀ k t, rK h k t → rK h' k t)
theorem fr.rf {X : List Nat} {Y : List (Nat × Nat)} {h : zH} : fr X Y h h := ⟨⟨rfl, rfl⟩, fun _ _ => ⟨rfl, rfl, rfl⟩, fun _ _ _ => rfl, fun _ => rfl, fun _ _ z => z, fun _ _ z => z, fun _ z => z, fun _ _ z => z⟩
theorem fr.tr {X : List Nat} {Y : List (Nat × Nat)} {h h1 h2 : zH} (a : fr X Y h h1) (b : fr X Y h1 h2) : fr X Y h h2 := by
  obtain ⟨a1, a2, a3, a4, a5, a6, a7, a8⟩ := a
  obtain ⟨b1, b2, b3, b4, b5, b6, b7, b8⟩ := b
  refine ⟨⟨b1.1.trans a1.1, b1.2.trans a1.2⟩, fun k hk => ?_, fun k f hk => (b3 k f hk).trans (a3 k f hk), fun k => (b4 k).trans (a4 k), fun k c z => b5 k c (a5 k c z), fun k t z => b6 k t (a6 k t z), fun k z => b7 k (a7 k z), fun k t z => b8 k t (a8 k t z)⟩
  have p := a2 k hk
  have q := b2 k hk
  exact ⟨q.1.trans p.1, q.2.1.trans p.2.1, q.2.2.trans p.2.2⟩
theorem fr.mo {X X' : List Nat} {Y Y' : List (Nat × Nat)} {h h' : zH} (hX : ∀ k, k ∈ X → k ∈ X') (hY : ∀ k, k ∈ Y → k ∈ Y') (a : fr X Y h h') : fr X' Y' h h' := by
  obtain ⟨a1, a2, a3, a4, a5⟩ := a
  exact ⟨a1, fun k hk => a2 k (fun z => hk (hX k z)), fun k f hk => a3 k f (fun z => hk (hY _ z)), a4, a5⟩
theorem fr.i {X : List Nat} {Y : List (Nat × Nat)} {h h' : zH} (a : fr X Y h h') {k : Nat} (hk : k ∉ X) : aI h' k = aI h k := (a.2.1 k hk).1
theorem fr.l {X : List Nat} {Y : List (Nat × Nat)} {h h' : zH} (a : fr X Y h h') {k : Nat} (hk : k ∉ X) : aL h' k = aL h k := (a.2.1 k hk).2.1
theorem fr.r {X : List Nat} {Y : List (Nat × Nat)} {h h' : zH} (a : fr X Y h h') {k : Nat} (hk : k ∉ X) : aR h' k = aR h k := (a.2.1 k hk).2.2
theorem fr.f {X : List Nat} {Y : List (Nat × Nat)} {h h' : zH} (a : fr X Y h h') {k f : Nat} (hk : (k, f) ∉ Y) : gF h' k f = gF h k f := a.2.2.1 k f hk
theorem fr.gi {X : List Nat} {Y : List (Nat × Nat)} {h h' : zH} (a : fr X Y h h') {k f : Nat} (hk : (k, f) ∉ Y) : gI h' k f = gI h k f := by rw [gI, a.f hk, ← gI]
theorem fr.gl {X : List Nat} {Y : List (Nat × Nat)} {h h' : zH} (a : fr X Y h h') {k f : Nat} (hk : (k, f) ∉ Y) : gL h' k f = gL h k f := by rw [gL, a.f hk, ← gL]
theorem fr.gr {X : List Nat} {Y : List (Nat × Nat)} {h h' : zH} (a : fr X Y h h') {k f : Nat} (hk : (k, f) ∉ Y) : gR h' k f = gR h k f := by rw [gR, a.f hk, ← gR]
theorem fr.n {X : List Nat} {Y : List (Nat × Nat)} {h h' : zH} (a : fr X Y h h') (k : Nat) : aN h' k = aN h k := a.2.2.2.1 k
theorem fr.o {X : List Nat} {Y : List (Nat × Nat)} {h h' : zH} (a : fr X Y h h') {k c : Nat} (z : oK h k c) : oK h' k c := a.2.2.2.2.1 k c z
theorem fr.ik {X : List Nat} {Y : List (Nat × Nat)} {h h' : zH} (a : fr X Y h h') {k c : Nat} (z : iK h k c) : iK h' k c := a.2.2.2.2.2.1 k c z
theorem fr.lk {X : List Nat} {Y : List (Nat × Nat)} {h h' : zH} (a : fr X Y h h') {k : Nat} (z : lK h k) : lK h' k := a.2.2.2.2.2.2.1 k z
theorem fr.rk {X : List Nat} {Y : List (Nat × Nat)} {h h' : zH} (a : fr X Y h h') {k c : Nat} (z : rK h k c) : rK h' k c := a.2.2.2.2.2.2.2 k c z
theorem fr_pI {X : List Nat} {Y : List (Nat × Nat)} {h : zH} {a i : Nat} {x : Int32} (ha : a ∈ X) : fr X Y h (pI h a i x) :=
  ⟨⟨rfl, rfl⟩, fun k hk => have hn : k ≠ a := fun z => hk (z ▸ ha); ⟨funext fun j => aI_pI_n (Or.inl hn), funext fun j => aL_pI, funext fun j => aR_pI⟩, fun _ _ _ => gF_pI, fun _ => aN_pI, fun _ _ z => oK_pI z, fun _ _ z => iK_pI z, fun _ z => lK_pI z, fun _ _ z => rK_pI z⟩
theorem fr_pL {X : List Nat} {Y : List (Nat × Nat)} {h : zH} {a i : Nat} {x : Int64} (ha : a ∈ X) : fr X Y h (pL h a i x) :=
  ⟨⟨rfl, rfl⟩, fun k hk => have hn : k ≠ a := fun z => hk (z ▸ ha); ⟨funext fun j => aI_pL, funext fun j => aL_pL_n (Or.inl hn), funext fun j => aR_pL⟩, fun _ _ _ => gF_pL, fun _ => aN_pL, fun _ _ z => oK_pL z, fun _ _ z => iK_pL z, fun _ z => lK_pL z, fun _ _ z => rK_pL z⟩
theorem fr_pR {X : List Nat} {Y : List (Nat × Nat)} {h : zH} {a i : Nat} {x : Option Nat} (ha : a ∈ X) : fr X Y h (pR h a i x) :=
  ⟨⟨rfl, rfl⟩, fun k hk => have hn : k ≠ a := fun z => hk (z ▸ ha); ⟨funext fun j => aI_pR, funext fun j => aL_pR, funext fun j => aR_pR_n (Or.inl hn)⟩, fun _ _ _ => gF_pR, fun _ => aN_pR, fun _ _ z => oK_pR z, fun _ _ z => iK_pR z, fun _ z => lK_pR z, fun _ _ z => rK_pR z⟩
theorem fr_pF {X : List Nat} {Y : List (Nat × Nat)} {h : zH} {a k c t : Nat} {v : Value} (ha : (a, k) ∈ Y) (ho : oK h a c) (hz : (zkd c)[k]? = some t) (hv : zm t v = true) : fr X Y h (pF h a k v) :=
  ⟨⟨rfl, rfl⟩, fun j _ => ⟨funext fun _ => aI_pF, funext fun _ => aL_pF, funext fun _ => aR_pF⟩, fun b j hj => gF_pF_n (by
    by_cases hb : b = a
    · exact Or.inr (fun z => hj (by rw [hb, z]; exact ha))
    · exact Or.inl hb), fun _ => aN_pF, fun _ _ z => oK_pF' ho hz hv z, fun _ _ z => iK_pF z, fun _ z => lK_pF z, fun _ _ z => rK_pF z⟩
/-- sums from j on, d of them -/
def sm (f : Nat → Nat) : Nat → Nat → Nat
  | _, 0 => 0
  | j, d + 1 => f j + sm f (j + 1) d
theorem sm_last (f : Nat → Nat) : ∀ (d j : Nat), sm f j (d + 1) = sm f j d + f (j + d)
  | 0, j => by simp [sm]
  | d + 1, j => by
    rw [sm, sm_last f d (j + 1), sm, show j + 1 + d = j + (d + 1) by omega]
    omega
theorem sm_le (f : Nat → Nat) (m : Nat) : ∀ (d j : Nat), (∀ i, j ≤ i → i < j + d → f i ≤ m) → sm f j d ≤ m * d
  | 0, _, _ => by simp [sm]
  | d + 1, j, h => by
    have h1 := h j (Nat.le_refl j) (by omega)
    have h2 := sm_le f m d (j + 1) (fun i a b => h i (by omega) (by omega))
    rw [sm, Nat.mul_succ]
    omega
theorem sm_congr {f g : Nat → Nat} : ∀ (d j : Nat), (∀ i, j ≤ i → i < j + d → f i = g i) → sm f j d = sm g j d
  | 0, _, _ => rfl
  | d + 1, j, h => by rw [sm, sm, h j (Nat.le_refl j) (by omega), sm_congr d (j + 1) (fun i a b => h i (by omega) (by omega))]
/-! what a ballot says -/
/-- votes of one: V voters, their streets, weights, marks; the ballot's own; 0 or 1 and a street; a mark -/
def vf (st wt mk : Nat → Nat) (own s m v : Nat) : Nat := if v ≠ own ∧ mk v = m ∧ (s = 0 ∨ s = st v + 1) then wt v else 0
def vts (V : Nat) (st wt mk : Nat → Nat) (own s m : Nat) : Nat := sm (vf st wt mk own s m) 0 V
theorem vf_le {st wt mk : Nat → Nat} {own s m v w : Nat} (h : wt v ≤ w) : vf st wt mk own s m v ≤ w := by
  unfold vf
  split
  · exact h
  · exact Nat.zero_le _
theorem vts_le {V : Nat} {st wt mk : Nat → Nat} {own s m : Nat} (h : ∀ v, v < V → wt v ≤ 9) : vts V st wt mk own s m ≤ 9 * V :=
  sm_le _ 9 V 0 (fun i _ hi => vf_le (h i (by omega)))
/-- the name with most votes: d names from n on, best and its votes so far -/
def mst (g : Nat → Nat) : Nat → Nat → Nat → Nat → Nat
  | 0, _, best, _ => best
  | d + 1, n, best, top => if g n ≤ top then mst g d (n + 1) best top else mst g d (n + 1) n (g n)
def fwt (g : Nat → Nat) : Nat → Nat → Nat → Nat → Nat
  | 0, _, best, _ => best
  | d + 1, n, best, top => if best = 0 then fwt g d (n + 1) n (g n) else if top ≤ g n then fwt g d (n + 1) best top else fwt g d (n + 1) n (g n)
def chs (g : Nat → Nat) : Nat → Nat → Nat → Nat → Nat
  | 0, _, best, _ => best
  | d + 1, n, best, top => if g n ≤ top then (if g n = top then chs g d (n + 1) 0 top else chs g d (n + 1) best top) else chs g d (n + 1) n (g n)
theorem mst_le (g : Nat → Nat) (N : Nat) : ∀ (d n b t : Nat), b ≤ N → n + d ≤ N + 1 → mst g d n b t ≤ N
  | 0, _, b, _, h, _ => h
  | d + 1, n, b, t, h, h2 => by
    rw [mst]
    split
    · exact mst_le g N d _ _ _ h (by omega)
    · exact mst_le g N d _ _ _ (by omega) (by omega)
theorem fwt_le (g : Nat → Nat) (N : Nat) : ∀ (d n b t : Nat), b ≤ N → n + d ≤ N + 1 → fwt g d n b t ≤ N
  | 0, _, b, _, h, _ => h
  | d + 1, n, b, t, h, h2 => by
    rw [fwt]
    split
    · exact fwt_le g N d _ _ _ (by omega) (by omega)
    · split
      · exact fwt_le g N d _ _ _ h (by omega)
      · exact fwt_le g N d _ _ _ (by omega) (by omega)
theorem chs_le (g : Nat → Nat) (N : Nat) : ∀ (d n b t : Nat), b ≤ N → n + d ≤ N + 1 → chs g d n b t ≤ N
  | 0, _, b, _, h, _ => h
  | d + 1, n, b, t, h, h2 => by
    rw [chs]
    split
    · split
      · exact chs_le g N d _ _ _ (Nat.zero_le _) (by omega)
      · exact chs_le g N d _ _ _ h (by omega)
    · exact chs_le g N d _ _ _ (by omega) (by omega)
/-- an operator's value -/
def jn (k : Nat) (a b : Int32) : Int32 :=
  if k = 5 then (if a = 0 then 0 else if b = 0 then 0 else 1)
  else if k = 7 then (if b ≤ a then 0 else 1)
  else if k = 8 then (if a ≤ b then 0 else 1)
  else if k = 9 then (if a = b then 1 else 0)
  else if k = 10 then a + b
  else if k = 11 then a - b
  else (if a = 0 then (if b = 0 then 0 else 1) else 1)
/-- one step of a ballot: (kind, small, large), where to go on at least, the pile -/
def st1 (V N : Nat) (st wt mk : Nat → Nat) (own : Nat) (o : Nat × Nat × Nat) (ow : Nat) (l : List Int32) : Nat ⊕ (Nat × List Int32) :=
  if o.1 = 0 then .inr (ow, nI o.2.2 :: l)
  else if o.1 = 1 then .inr (ow, nI (vts V st wt mk own o.2.1 o.2.2) :: l)
  else if o.1 = 2 then .inr (ow, (if mk o.2.2 = o.2.1 then 1 else 0) :: l)
  else if o.1 = 3 then .inr (if l.headD 0 = 0 then o.2.2 else 0, l.tail)
  else if o.1 = 6 then .inr (ow, (if l.headD 0 = 0 then 1 else 0) :: l.tail)
  else if o.1 = 12 then .inl o.2.2
  else if o.1 = 13 then .inl (mk o.2.2)
  else if o.1 = 14 then .inl (mst (vts V st wt mk own o.2.1) N 1 0 0)
  else if o.1 = 15 then .inl (fwt (vts V st wt mk own o.2.1) N 1 0 0)
  else .inr (ow, jn o.1 (l.tail.headD 0) (l.headD 0) :: l.tail.tail)
/-- k steps from i on -/
def ex (V N : Nat) (st wt mk : Nat → Nat) (own : Nat) (c : Nat → Nat × Nat × Nat) : Nat → Nat → Nat → List Int32 → Nat
  | 0, _, _, _ => 0
  | k + 1, i, ow, l => if i < ow then ex V N st wt mk own c k (i + 1) ow l else
    match st1 V N st wt mk own (c i) ow l with
    | .inl r => r
    | .inr (ow', l') => ex V N st wt mk own c k (i + 1) ow' l'
/-- a step is sound: where it stands, how many values there are before and behind -/
def okO (V N : Nat) (own : Nat) (n i : Nat) (H : Nat → Nat) (o : Nat × Nat × Nat) : Prop :=
  (o.1 = 0 ∧ H (i + 1) = H i + 1 ∧ o.2.2 ≤ 9999 ∧ o.2.1 = 0) ∨
  (o.1 = 1 ∧ H (i + 1) = H i + 1 ∧ o.2.1 ≤ 4 ∧ o.2.2 ≤ N) ∨
  (o.1 = 2 ∧ H (i + 1) = H i + 1 ∧ o.2.1 ≤ N ∧ 0 < o.2.1 ∧ o.2.2 < V ∧ o.2.2 ≠ own) ∨
  (o.1 = 3 ∧ H i = 1 ∧ H (i + 1) = 0 ∧ i < o.2.2 ∧ o.2.2 ≤ n ∧ H o.2.2 = 0 ∧ o.2.1 = 0) ∨
  (o.1 = 6 ∧ H (i + 1) = H i ∧ 0 < H i ∧ o.2.1 = 0 ∧ o.2.2 = 0) ∨
  (o.1 = 12 ∧ H i = 0 ∧ H (i + 1) = 0 ∧ o.2.1 = 0 ∧ o.2.2 ≤ N) ∨
  (o.1 = 13 ∧ H i = 0 ∧ H (i + 1) = 0 ∧ o.2.1 = 0 ∧ o.2.2 < V ∧ o.2.2 ≠ own) ∨
  ((o.1 = 14 ∨ o.1 = 15) ∧ H i = 0 ∧ H (i + 1) = 0 ∧ o.2.1 ≤ 4 ∧ o.2.2 = 0) ∨
  ((o.1 = 4 ∨ o.1 = 5 ∨ o.1 = 7 ∨ o.1 = 8 ∨ o.1 = 9 ∨ o.1 = 10 ∨ o.1 = 11) ∧ 2 ≤ H i ∧ H (i + 1) + 1 = H i ∧ o.2.1 = 0 ∧ o.2.2 = 0)
def okC (V N : Nat) (own n : Nat) (c : Nat → Nat × Nat × Nat) : Prop := n ≤ 640 ∧ ∃ H : Nat → Nat, H 0 = 0 ∧ ∀ i, i < n → H i ≤ 40 ∧ okO V N own n i H (c i)
/-- what a ballot of n steps says -/
def sayF (V N : Nat) (st wt mk : Nat → Nat) (own n : Nat) (c : Nat → Nat × Nat × Nat) : Nat := ex V N st wt mk own c n 0 0 []
/-- a pile's picture: top last -/
def stR (f : Nat → Int32) : List Int32 → Prop
  | [] => True
  | x :: r => f r.length = x ∧ stR f r
theorem stR_c {f g : Nat → Int32} : ∀ {l : List Int32}, (∀ j, j < l.length → f j = g j) → stR f l → stR g l
  | [], _, _ => trivial
  | x :: r, h, ⟨h1, h2⟩ => ⟨by rw [← h1]; exact (h _ (Nat.lt_succ_self _)).symm, stR_c (fun j hj => h j (Nat.lt_succ_of_lt hj)) h2⟩
theorem stR_hd {f : Nat → Int32} {l : List Int32} (h : stR f l) (hl : 0 < l.length) : f (l.length - 1) = l.headD 0 := by
  cases l with
  | nil => simp at hl
  | cons x r => simpa using h.1
theorem stR_tl {f : Nat → Int32} {l : List Int32} (h : stR f l) : stR f l.tail := by
  cases l with
  | nil => trivial
  | cons x r => exact h.2
theorem ex_ow {V N : Nat} {st wt mk : Nat → Nat} {own : Nat} {c : Nat → Nat × Nat × Nat} : ∀ (k i ow ow2 : Nat) (l : List Int32), ow ≤ i → ow2 ≤ i → ex V N st wt mk own c k i ow l = ex V N st wt mk own c k i ow2 l
  | 0, _, _, _, _, _, _ => rfl
  | k + 1, i, ow, ow2, l, h1, h2 => by
    rw [ex, ex, if_neg (by omega), if_neg (by omega)]
    have e : ∀ o : Nat × Nat × Nat, (∃ r, st1 V N st wt mk own o ow l = .inl r ∧ st1 V N st wt mk own o ow2 l = .inl r) ∨ (∃ w l', st1 V N st wt mk own o ow l = .inr (w, l') ∧ st1 V N st wt mk own o ow2 l = .inr (w, l')) ∨ (∃ l', st1 V N st wt mk own o ow l = .inr (ow, l') ∧ st1 V N st wt mk own o ow2 l = .inr (ow2, l')) := by
      intro o
      unfold st1
      by_cases z0 : o.1 = 0
      · simp only [if_pos z0]; exact Or.inr (Or.inr ⟨_, rfl, rfl⟩)
      simp only [if_neg z0]
      by_cases z1 : o.1 = 1
      · simp only [if_pos z1]; exact Or.inr (Or.inr ⟨_, rfl, rfl⟩)
      simp only [if_neg z1]
      by_cases z2 : o.1 = 2
      · simp only [if_pos z2]; exact Or.inr (Or.inr ⟨_, rfl, rfl⟩)
      simp only [if_neg z2]
      by_cases z3 : o.1 = 3
      · simp only [if_pos z3]; exact Or.inr (Or.inl ⟨_, _, rfl, rfl⟩)
      simp only [if_neg z3]
      by_cases z6 : o.1 = 6
      · simp only [if_pos z6]; exact Or.inr (Or.inr ⟨_, rfl, rfl⟩)
      simp only [if_neg z6]
      by_cases z12 : o.1 = 12
      · simp only [if_pos z12]; exact Or.inl ⟨_, rfl, rfl⟩
      simp only [if_neg z12]
      by_cases z13 : o.1 = 13
      · simp only [if_pos z13]; exact Or.inl ⟨_, rfl, rfl⟩
      simp only [if_neg z13]
      by_cases z14 : o.1 = 14
      · simp only [if_pos z14]; exact Or.inl ⟨_, rfl, rfl⟩
      simp only [if_neg z14]
      by_cases z15 : o.1 = 15
      · simp only [if_pos z15]; exact Or.inl ⟨_, rfl, rfl⟩
      simp only [if_neg z15]
      exact Or.inr (Or.inr ⟨_, rfl, rfl⟩)
    rcases e (c i) with ⟨r, e1, e2⟩ | ⟨w, l', e1, e2⟩ | ⟨l', e1, e2⟩
    · rw [e1, e2]
    · rw [e1, e2]
    · rw [e1, e2]
      exact ex_ow k (i + 1) ow ow2 l' (by omega) (by omega)
theorem ex_skip {V N : Nat} {st wt mk : Nat → Nat} {own : Nat} {c : Nat → Nat × Nat × Nat} : ∀ (d k i ow : Nat) (l : List Int32), i + d = ow → ex V N st wt mk own c (k + d) i ow l = ex V N st wt mk own c k ow 0 l
  | 0, k, i, ow, l, h => by
    have : i = ow := by omega
    subst this
    exact ex_ow k i i 0 l (Nat.le_refl _) (Nat.zero_le _)
  | d + 1, k, i, ow, l, h => by
    rw [← Nat.add_assoc, ex, if_pos (by omega)]
    exact ex_skip d k (i + 1) ow l (by omega)

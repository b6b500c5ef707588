/-! ===== rounds and orders ===== -/
section
variable {V N : Nat} {f : (Nat → Nat) → Nat → Nat}
/-- a round's first i turns -/
def rdp (f : (Nat → Nat) → Nat → Nat) (ord : Nat → Nat) : Nat → (Nat → Nat) → Nat → Nat
  | 0, m => m
  | i + 1, m => ud (rdp f ord i m) (ord i) (f (rdp f ord i m) (ord i))
/-- the marks behind k rounds -/
def xsF (f : (Nat → Nat) → Nat → Nat) (ord : Nat → Nat) (V : Nat) : Nat → Nat → Nat
  | 0 => fun _ => 0
  | k + 1 => rdp f ord V (xsF f ord V k)
def fixB (f : (Nat → Nat) → Nat → Nat) (ord : Nat → Nat) (V k : Nat) : Bool := (List.range V).all (fun v => decide (xsF f ord V (k + 1) v = xsF f ord V k v))
theorem fixB_iff {ord : Nat → Nat} {k : Nat} : fixB f ord V k = true ↔ ∀ v, v < V → xsF f ord V (k + 1) v = xsF f ord V k v := by simp [fixB]
/-- behind how many rounds it rests -/
def rsO (f : (Nat → Nat) → Nat → Nat) (ord : Nat → Nat) (V : Nat) : Option Nat := fsN (fixB f ord V) 41 0
theorem rdp_le (hn : fN V N f) {ord : Nat → Nat} (ho : ∀ i, i < V → ord i < V) : ∀ (i : Nat) (mk : Nat → Nat), i ≤ V → (∀ v, v < V → mk v ≤ N) → ∀ v, v < V → rdp f ord i mk v ≤ N
  | 0, _, _, h => h
  | i + 1, m, hi, h => fun v hv => by
    have ih := rdp_le hn ho i m (by omega) h
    rw [rdp]
    by_cases z : v = ord i
    · rw [z, ud_s]; exact hn _ ih _ (ho i (by omega))
    · rw [ud_n z]; exact ih v hv
theorem xs_le (hn : fN V N f) {ord : Nat → Nat} (ho : ∀ i, i < V → ord i < V) : ∀ (k : Nat) (v : Nat), v < V → xsF f ord V k v ≤ N
  | 0, _, _ => Nat.zero_le _
  | k + 1, v, hv => rdp_le hn ho V _ (Nat.le_refl _) (fun w hw => xs_le hn ho k w hw) v hv
theorem fsN_lt {p : Nat → Bool} : ∀ {d v x : Nat}, fsN p d v = some x → v ≤ x ∧ x < v + d ∧ p x = true
  | 0, v, x, h => by cases h
  | d + 1, v, x, h => by
    rw [fsN] at h
    split at h
    · next z => cases h; exact ⟨Nat.le_refl _, by omega, z⟩
    · have := fsN_lt h
      exact ⟨by omega, by omega, this.2.2⟩
theorem fsN_none {p : Nat → Bool} : ∀ {d v : Nat}, fsN p d v = none ↔ ∀ x, v ≤ x → x < v + d → p x = false
  | 0, v => by simp [fsN]; omega
  | d + 1, v => by
    rw [fsN]
    split
    · next z => simp; exact ⟨v, Nat.le_refl _, by omega, z⟩
    · next z =>
      rw [fsN_none]
      constructor
      · intro h x h1 h2
        by_cases e : x = v
        · rw [e]; simpa using z
        · exact h x (by omega) (by omega)
      · intro h x h1 h2
        exact h x (by omega) (by omega)
/-! orders as digits -/
def dgT (n j : Nat) : Nat := n / 10 ^ j % 10
def ordF (n V i : Nat) : Nat := dgT n (V - 1 - i) - 1
def mO (n V : Nat) : Nat → Nat → Nat → Bool
  | 0, j, _ => decide (n / 10 ^ j = 0)
  | k + 1, j, met => (decide (1 ≤ dgT n j) && decide (dgT n j ≤ V)) && (!met.testBit (dgT n j - 1) && mO n V k (j + 1) (met ||| 2 ^ (dgT n j - 1)))
def cO (n V : Nat) : Nat → Nat → Nat → Bool
  | 0, j, seen => decide (n / 10 ^ j = 0) && decide (seen = 2 ^ V - 1)
  | k + 1, j, seen => (decide (1 ≤ dgT n j) && decide (dgT n j ≤ V)) && cO n V k (j + 1) (seen ||| 2 ^ (dgT n j - 1))
theorem pc1 : ∀ s, s < 256 → ∀ j, j < 8 → pcF (s ||| 2 ^ j) = pcF s + (if s.testBit j = true then 0 else 1) := by decide +kernel
theorem pc2 : ∀ W, W < 9 → ∀ s, s < 2 ^ W → pcF s = W → s = 2 ^ W - 1 := by decide +kernel
theorem pc3 : ∀ W, W < 9 → pcF (2 ^ W - 1) = W := by decide +kernel
theorem or_lt {s j : Nat} (hs : s < 2 ^ V) (hj : j < V) : s ||| 2 ^ j < 2 ^ V := Nat.or_lt_two_pow hs (Nat.pow_lt_pow_right (by decide) hj)
theorem pc1a {s j : Nat} (hs : s < 256) (hj : j < 8) : pcF (s ||| 2 ^ j) ≤ pcF s + 1 ∧ (s.testBit j = true → pcF (s ||| 2 ^ j) = pcF s) ∧ (s.testBit j = false → pcF (s ||| 2 ^ j) = pcF s + 1) := by
  have := pc1 s hs j hj
  generalize pcF (s ||| 2 ^ j) = a at *
  generalize pcF s = b at *
  cases hb : s.testBit j
  · rw [hb] at this
    have e : a = b + 1 := this
    exact ⟨by omega, fun z => by (cases z), fun _ => e⟩
  · rw [hb] at this
    have e : a = b := this
    exact ⟨by omega, fun _ => e, fun z => by (cases z)⟩
theorem lt256 {s : Nat} (hV : V ≤ 8) (hs : s < 2 ^ V) : s < 256 := Nat.lt_of_lt_of_le hs (Nat.le_trans (Nat.pow_le_pow_right (by decide) hV) (by decide))
theorem cO_few {n : Nat} (hV : V ≤ 8) : ∀ (k j seen c : Nat), seen < 2 ^ V → pcF seen = c → c + k < V → cO n V k j seen = false := by
  intro k
  induction k with
  | zero =>
    intro j seen c hs hc h
    have p3 := pc3 V (by omega)
    have : seen ≠ 2 ^ V - 1 := fun e => by
      rw [← e, hc] at p3
      omega
    unfold cO
    rw [decide_eq_false this, Bool.and_false]
  | succ k ih =>
    intro j seen c hs hc h
    rw [cO]
    by_cases z : 1 ≤ dgT n j ∧ dgT n j ≤ V
    · have t := (pc1a (lt256 hV hs) (show dgT n j - 1 < 8 by omega)).1
      rw [hc] at t
      rw [ih (j + 1) _ _ (or_lt hs (by omega)) rfl (by omega), Bool.and_false]
    · have : (decide (1 ≤ dgT n j) && decide (dgT n j ≤ V)) = false := by
        simp only [Bool.and_eq_false_imp, decide_eq_true_eq, decide_eq_false_iff_not]
        exact fun z1 z2 => z ⟨z1, z2⟩
      rw [this]; rfl
theorem mO_cO {n : Nat} (hV : V ≤ 8) : ∀ (k j met c : Nat), met < 2 ^ V → pcF met = c → c + k = V → mO n V k j met = cO n V k j met := by
  intro k
  induction k with
  | zero =>
    intro j met c hs hc h
    have : met = 2 ^ V - 1 := pc2 V (by omega) met hs (by rw [hc]; omega)
    unfold mO cO
    rw [decide_eq_true this, Bool.and_true]
  | succ k ih =>
    intro j met c hs hc h
    rw [mO, cO]
    by_cases z : 1 ≤ dgT n j ∧ dgT n j ≤ V
    · have t := pc1a (lt256 hV hs) (show dgT n j - 1 < 8 by omega)
      rw [hc] at t
      cases hb : met.testBit (dgT n j - 1)
      · rw [ih (j + 1) _ _ (or_lt hs (by omega)) (t.2.2 hb) (by omega)]
        rfl
      · rw [cO_few hV k (j + 1) _ _ (or_lt hs (by omega)) (t.2.1 hb) (by omega)]
        rfl
    · have : (decide (1 ≤ dgT n j) && decide (dgT n j ≤ V)) = false := by
        simp only [Bool.and_eq_false_imp, decide_eq_true_eq, decide_eq_false_iff_not]
        exact fun z1 z2 => z ⟨z1, z2⟩
      rw [this]; rfl
theorem pcF_z : pcF 0 = 0 := by decide +kernel
theorem mO_eq {n : Nat} (hV : V ≤ 8) : mO n V V 0 0 = cO n V V 0 0 := mO_cO hV V 0 0 0 (Nat.two_pow_pos V) pcF_z (by omega)
/-- the digits of a good order -/
theorem mO_dig {n : Nat} : ∀ (k j met : Nat), mO n V k j met = true → ∀ i, j ≤ i → i < j + k → 1 ≤ dgT n i ∧ dgT n i ≤ V
  | 0, j, met, _, i, h1, h2 => by omega
  | k + 1, j, met, h, i, h1, h2 => by
    rw [mO] at h
    simp at h
    by_cases e : i = j
    · rw [e]; exact h.1
    · exact mO_dig k (j + 1) _ h.2.2 i (by omega) (by omega)
theorem ordF_lt {n : Nat} (h : mO n V V 0 0 = true) {i : Nat} (hi : i < V) : ordF n V i < V := by
  have := mO_dig V 0 0 h (V - 1 - i) (Nat.zero_le _) (by omega)
  unfold ordF; omega
/-! the order behind an order -/
def swp (p : Nat → Nat) (a b : Nat) : Nat → Nat := ud (ud p a (p b)) b (p a)
def loF (p : Nat → Nat) : Nat → Option Nat
  | 0 => none
  | k + 1 => if p k ≤ p (k + 1) then some k else loF p k
def hiF (p : Nat → Nat) (x : Nat) : Nat → Nat
  | 0 => 0
  | k + 1 => if x ≤ p (k + 1) then k + 1 else hiF p x k
def rvF : Nat → Nat → Nat → (Nat → Nat) → Nat → Nat
  | 0, _, _, p => p
  | d + 1, a, b, p => if a < b then rvF d (a + 1) (b - 1) (swp p a b) else p
def nxF (V : Nat) (p : Nat → Nat) : Option (Nat → Nat) := match loF p (V - 1) with
  | none => none
  | some l => some (rvF 8 (l + 1) (V - 1) (swp p l (hiF p (p l) (V - 1))))
def okP (V : Nat) (p : Nat → Nat) : Prop := (∀ i, i < V → p i < V) ∧ ∀ i j, i < V → j < V → p i = p j → i = j
theorem swp_at {p : Nat → Nat} {a b j : Nat} : swp p a b j = if j = b then p a else if j = a then p b else p j := by
  unfold swp ud
  rfl
theorem okP_swp {p : Nat → Nat} {a b : Nat} (h : okP V p) (ha : a < V) (hb : b < V) : okP V (swp p a b) := by
  refine ⟨fun i hi => ?_, fun i j hi hj e => ?_⟩
  · rw [swp_at]
    split
    · exact h.1 a ha
    · split
      · exact h.1 b hb
      · exact h.1 i hi
  · rw [swp_at, swp_at] at e
    by_cases i1 : i = b
    · by_cases j1 : j = b
      · omega
      · rw [if_pos i1, if_neg j1] at e
        by_cases j2 : j = a
        · rw [if_pos j2] at e
          have := h.2 _ _ ha hb e; omega
        · rw [if_neg j2] at e
          have := h.2 _ _ ha hj e; omega
    · rw [if_neg i1] at e
      by_cases i2 : i = a
      · rw [if_pos i2] at e
        by_cases j1 : j = b
        · rw [if_pos j1] at e
          have := h.2 _ _ hb ha e; omega
        · rw [if_neg j1] at e
          by_cases j2 : j = a
          · omega
          · rw [if_neg j2] at e
            have := h.2 _ _ hb hj e; omega
      · rw [if_neg i2] at e
        by_cases j1 : j = b
        · rw [if_pos j1] at e
          have := h.2 _ _ hi ha e; omega
        · rw [if_neg j1] at e
          by_cases j2 : j = a
          · rw [if_pos j2] at e
            have := h.2 _ _ hi hb e; omega
          · rw [if_neg j2] at e
            exact h.2 _ _ hi hj e
theorem okP_rv : ∀ (d a b : Nat) (p : Nat → Nat), okP V p → b < V → okP V (rvF d a b p)
  | 0, _, _, _, h, _ => h
  | d + 1, a, b, p, h, hb => by
    rw [rvF]
    split
    · exact okP_rv d (a + 1) (b - 1) _ (okP_swp h (by omega) hb) (by omega)
    · exact h
theorem rv_below : ∀ (d a b : Nat) (p : Nat → Nat) (i : Nat), i < a → rvF d a b p i = p i
  | 0, _, _, _, _, _ => rfl
  | d + 1, a, b, p, i, hi => by
    rw [rvF]
    split
    · rw [rv_below d (a + 1) (b - 1) _ i (by omega), swp_at, if_neg (by omega), if_neg (by omega)]
    · rfl
theorem lo_lt {p : Nat → Nat} : ∀ {k l : Nat}, loF p k = some l → l < k ∧ p l ≤ p (l + 1)
  | 0, l, h => by cases h
  | k + 1, l, h => by
    rw [loF] at h
    split at h
    · next z => cases h; exact ⟨by omega, z⟩
    · have := lo_lt h; exact ⟨by omega, this.2⟩
theorem hi_ge {p : Nat → Nat} {x l : Nat} (hx : x ≤ p (l + 1)) : ∀ {k : Nat}, l < k → l < hiF p x k ∧ hiF p x k ≤ k ∧ x ≤ p (hiF p x k)
  | 0, h => by omega
  | k + 1, h => by
    rw [hiF]
    split
    · next z => exact ⟨h, Nat.le_refl _, z⟩
    · next z =>
      by_cases e : l = k
      · subst e; exact absurd hx z
      · have := hi_ge hx (show l < k by omega)
        exact ⟨this.1, by omega, this.2.2⟩
/-! ranks -/
def fcF : Nat → Nat
  | 0 => 1
  | k + 1 => (k + 1) * fcF k
theorem fc_pos : ∀ k, 0 < fcF k
  | 0 => by decide
  | k + 1 => by rw [fcF]; exact Nat.mul_pos (by omega) (fc_pos k)
theorem sm_add (f : Nat → Nat) : ∀ (a b j : Nat), sm f j (a + b) = sm f j a + sm f (j + a) b
  | 0, b, j => by simp [sm]
  | a + 1, b, j => by
    rw [show a + 1 + b = (a + b) + 1 by omega, sm, sm, sm_add f a b (j + 1), show j + 1 + a = j + (a + 1) by omega]
    omega
theorem sm_one {F : Nat → Nat} {k x : Nat} : ∀ (d j : Nat), j ≤ k → k < j + d → sm (fun i => if i = k then x else F i) j d + F k = sm F j d + x
  | 0, j, h1, h2 => by omega
  | d + 1, j, h1, h2 => by
    rw [sm, sm]
    by_cases e : j = k
    · subst e
      have : sm (fun i => if i = j then x else F i) (j + 1) d = sm F (j + 1) d := sm_congr d (j + 1) (fun i a _ => if_neg (by omega))
      rw [this]
      simp only [if_true]
      omega
    · have := @sm_one F k x d (j + 1) (by omega) (by omega)
      rw [if_neg e]
      omega
theorem sm_swp {G : Nat → Nat} {p : Nat → Nat} {a b j d : Nat} (ha : j ≤ a) (hab : a < b) (hb : b < j + d) : sm (fun i => G (swp p a b i)) j d = sm (fun i => G (p i)) j d := by
  have e1 : sm (fun i => G (swp p a b i)) j d = sm (fun i => if i = b then G (p a) else if i = a then G (p b) else G (p i)) j d := sm_congr d j (fun i _ _ => by
    rw [swp_at]; split
    · rfl
    · split <;> rfl)
  have e2 := @sm_one (fun i => if i = a then G (p b) else G (p i)) b (G (p a)) d j (by omega) hb
  have e3 := @sm_one (fun i => G (p i)) a (G (p b)) d j ha (by omega)
  rw [e1]
  rw [if_neg (by omega)] at e2
  omega
theorem sm_lt1 {F G : Nat → Nat} {k : Nat} : ∀ (d j : Nat), (∀ i, j ≤ i → i < j + d → F i ≤ G i) → j ≤ k → k < j + d → F k + 1 ≤ G k → sm F j d + 1 ≤ sm G j d
  | 0, j, _, h1, h2, _ => by omega
  | d + 1, j, h, h1, h2, h3 => by
    rw [sm, sm]
    have hj := h j (Nat.le_refl _) (by omega)
    by_cases e : j = k
    · subst e
      have : sm F (j + 1) d ≤ sm G (j + 1) d := by
        have aux : ∀ (d j : Nat), (∀ i, j ≤ i → i < j + d → F i ≤ G i) → sm F j d ≤ sm G j d := by
          intro d
          induction d with
          | zero => intro j _; simp [sm]
          | succ d ih =>
            intro j hh
            have a := hh j (Nat.le_refl _) (by omega)
            have b := ih (j + 1) (fun i x y => hh i (by omega) (by omega))
            rw [sm, sm]; omega
        exact aux d (j + 1) (fun i x y => h i (by omega) (by omega))
      omega
    · have := sm_lt1 d (j + 1) (fun i x y => h i (by omega) (by omega)) (by omega) (by omega) h3
      omega
def cntF (p : Nat → Nat) (V i : Nat) : Nat := sm (fun j => if p j < p i then 1 else 0) (i + 1) (V - 1 - i)
def rkF (p : Nat → Nat) (V : Nat) : Nat := sm (fun i => cntF p V i * fcF (V - 1 - i)) 0 V
theorem cnt_le {p : Nat → Nat} {i : Nat} : cntF p V i ≤ V - 1 - i := by
  have := sm_le (fun j => if p j < p i then 1 else 0) 1 (V - 1 - i) (i + 1) (fun j _ _ => by show (if _ then 1 else 0) ≤ 1; split <;> omega)
  unfold cntF; omega
theorem rk_tail {p : Nat → Nat} : ∀ (m i : Nat), i + m = V → sm (fun i => cntF p V i * fcF (V - 1 - i)) i m < fcF m
  | 0, i, _ => by simp [sm, fcF]
  | m + 1, i, h => by
    have ih := rk_tail m (i + 1) (by omega) (p := p)
    have hc := @cnt_le V p i
    rw [sm, fcF]
    have e : V - 1 - i = m := by omega
    rw [e] at hc ⊢
    have := Nat.mul_le_mul_right (fcF m) hc
    rw [Nat.add_mul, Nat.one_mul]
    omega
theorem rk_lt {p : Nat → Nat} : rkF p V < fcF V := rk_tail V 0 (by omega)
theorem cnt_swp {p : Nat → Nat} {a b i : Nat} (hi : i < a) (hab : a < b) (hb : b < V) : cntF (swp p a b) V i = cntF p V i := by
  have e : swp p a b i = p i := by rw [swp_at, if_neg (by omega), if_neg (by omega)]
  unfold cntF
  rw [e]
  exact sm_swp (G := fun x => if x < p i then 1 else 0) (by omega) hab (by omega)
theorem cnt_rv : ∀ (d a b : Nat) (p : Nat → Nat) (i : Nat), i < a → b < V → cntF (rvF d a b p) V i = cntF p V i
  | 0, _, _, _, _, _, _ => rfl
  | d + 1, a, b, p, i, hi, hb => by
    rw [rvF]
    split
    · rw [cnt_rv d (a + 1) (b - 1) _ i (by omega) (by omega), cnt_swp hi (by omega) hb]
    · rfl
theorem nx_ok {p q : Nat → Nat} (h : okP V p) (e : nxF V p = some q) : okP V q ∧ rkF p V < rkF q V := by
  unfold nxF at e
  cases hl : loF p (V - 1) with
  | none => rw [hl] at e; cases e
  | some l =>
    simp only [hl, Option.some.injEq] at e
    obtain ⟨l1, l2⟩ := lo_lt hl
    obtain ⟨g1, g2, g3⟩ := hi_ge l2 l1
    generalize hiF p (p l) (V - 1) = hh at *
    have e' : q = rvF 8 (l + 1) (V - 1) (swp p l hh) := e.symm
    have ok1 := okP_swp h (show l < V by omega) (show hh < V by omega)
    refine ⟨by rw [e']; exact okP_rv _ _ _ _ ok1 (by omega), ?_⟩
    have lt : p l < p hh := Nat.lt_of_le_of_ne g3 (fun z => by have := h.2 _ _ (by omega) (by omega) z; omega)
    have c1 : ∀ i, i < l → cntF q V i = cntF p V i := fun i hi => by
      rw [e', cnt_rv _ _ _ _ _ (by omega) (by omega), cnt_swp hi g1 (by omega)]
    have c2 : cntF p V l + 1 ≤ cntF q V l := by
      rw [e', cnt_rv _ _ _ _ _ (by omega) (by omega)]
      unfold cntF
      have e1 : swp p l hh l = p hh := by rw [swp_at, if_neg (by omega), if_pos rfl]
      rw [e1]
      refine sm_lt1 (k := hh) _ _ (fun j j1 j2 => ?_) (by omega) (by omega) ?_
      · show (if _ then 1 else 0) ≤ (if _ then 1 else 0)
        rw [swp_at]
        by_cases y : j = hh
        · rw [if_pos y, if_pos lt]; split <;> omega
        · rw [if_neg y, if_neg (show ¬ j = l by omega)]
          by_cases w : p j < p l
          · rw [if_pos w, if_pos (show p j < p hh by omega)]; exact Nat.le_refl _
          · rw [if_neg w]; exact Nat.zero_le _
      · show (if _ then 1 else 0) + 1 ≤ (if _ then 1 else 0)
        rw [swp_at, if_pos rfl, if_pos lt, if_neg (by omega)]; exact Nat.le_refl _
    have sp : ∀ r : Nat → Nat, rkF r V = sm (fun i => cntF r V i * fcF (V - 1 - i)) 0 l + (cntF r V l * fcF (V - 1 - l) + sm (fun i => cntF r V i * fcF (V - 1 - i)) (l + 1) (V - 1 - l)) := fun r => by
      unfold rkF
      have := sm_add (fun i => cntF r V i * fcF (V - 1 - i)) l (V - 1 - l + 1) 0
      rw [show l + (V - 1 - l + 1) = V by omega, sm, Nat.zero_add] at this
      exact this
    have a1 : sm (fun i => cntF q V i * fcF (V - 1 - i)) 0 l = sm (fun i => cntF p V i * fcF (V - 1 - i)) 0 l := sm_congr l 0 (fun i _ hi => by show _ * _ = _ * _; rw [c1 i (by omega)])
    have t := @rk_tail V p (V - 1 - l) (l + 1) (by omega)
    have m1 := Nat.mul_le_mul_right (fcF (V - 1 - l)) c2
    rw [Nat.add_mul, Nat.one_mul] at m1
    rw [sp p, sp q, a1]
    omega
/-! the best order -/
def dgF (p : Nat → Nat) : Nat → Nat
  | 0 => 0
  | i + 1 => 10 * dgF p i + p i + 1
theorem dgF_lt {p : Nat → Nat} : ∀ {i : Nat}, (∀ j, j < i → p j < 9) → dgF p i < 10 ^ i
  | 0, _ => by simp [dgF]
  | i + 1, h => by
    have h1 := dgF_lt (fun j hj => h j (by omega) : ∀ j, j < i → p j < 9)
    have h2 := h i (by omega)
    rw [dgF, Nat.pow_succ]
    omega
def upB (f : (Nat → Nat) → Nat → Nat) (V : Nat) (best : Option (Nat × Nat)) (p : Nat → Nat) : Option (Nat × Nat) := match rsO f p V with
  | none => best
  | some k => match best with
    | none => some (k, dgF p V)
    | some bb => if k < bb.1 then some (k, dgF p V) else best
def bsF (f : (Nat → Nat) → Nat → Nat) (V : Nat) : Nat → (Nat → Nat) → Option (Nat × Nat) → Option (Nat × Nat)
  | 0, _, best => best
  | d + 1, p, best => bsF f V d ((nxF V p).getD p) (upB f V best p)
def soF (f : (Nat → Nat) → Nat → Nat) (V : Nat) : Option (Nat × Nat) := bsF f V (fcF V) (fun i => i) none
theorem upB_id {p : Nat → Nat} {best : Option (Nat × Nat)} : upB f V (upB f V best p) p = upB f V best p := by
  unfold upB
  cases rsO f p V with
  | none => rfl
  | some k =>
    cases best with
    | none => simp
    | some bb =>
      by_cases z : k < bb.1
      · simp [z]
      · simp [z]
theorem bs_last {p : Nat → Nat} (h : nxF V p = none) : ∀ (d : Nat) (best : Option (Nat × Nat)), bsF f V (d + 1) p best = upB f V best p
  | 0, best => rfl
  | d + 1, best => by
    rw [bsF, h]
    show bsF f V (d + 1) p (upB f V best p) = _
    rw [bs_last h d, upB_id]
end

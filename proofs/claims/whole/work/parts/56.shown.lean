/-! ===== small texts: class and reference ===== -/
section
variable {h h' : zH} {Q : Option Value → zH → Prop}
def wdI (n : Int32) : Int32 := (1 : Int32) <<< ((n - (1 : Int32)) &&& 31)
def rwI (n t v : Int32) : Int32 := (t >>> ((wdI n * ((n - (1 : Int32)) - v)) &&& 31)) &&& (((1 : Int32) <<< (wdI n &&& 31)) - (1 : Int32))
def otI (a v : Int32) : Int32 := (a &&& (((1 : Int32) <<< (v &&& 31)) - (1 : Int32))) ||| ((a >>> ((v + (1 : Int32)) &&& 31)) <<< (v &&& 31))
def btI (r o : Int32) : Int32 := (r >>> (o &&& 31)) &&& (1 : Int32)
theorem wd_eq {n : Nat} (hn : n = 2 ∨ n = 3) : wdI (nI n) = nI (2 ^ (n - 1)) := by rcases hn with rfl | rfl <;> decide +kernel
theorem rw_lt {n : Nat} (hn : n = 2 ∨ n = 3) (t v : Int32) : ∃ r, r < 2 ^ 2 ^ (n - 1) ∧ rwI (nI n) t v = nI r := by
  rcases hn with rfl | rfl
  · exact pk_andE _ 2 (by decide +kernel)
  · exact pk_andE _ 4 (by decide +kernel)
/-- all agree with hands a -/
def agT (n : Nat) (t : Int32) (a : Nat) : Bool := (List.range' 0 n).all (fun v => decide (btI (rwI (nI n) t (nI v)) (otI (nI a) (nI v)) = btI (nI a) (nI v)))
def stN (n : Nat) (t : Int32) : Nat := ((List.range' 0 (2 ^ n)).filter (agT n t)).length
/-- by the clauses: the reference's words -/
def mPr (c : Nat) (r : Int32) (v a d : Nat) : Bool :=
  (!(decide (c = 1) && decide ((nI a &&& (((1 : Int32) <<< (nI v &&& 31)) - (1 : Int32))) = (nI d &&& (((1 : Int32) <<< (nI v &&& 31)) - (1 : Int32))))) || decide (btI r (otI (nI a) (nI v)) = btI r (otI (nI d) (nI v)))) &&
  (!(decide (c = 2) && decide (((nI a &&& (nI d ^^^ (-1 : Int32))) &&& (((1 : Int32) <<< (nI v &&& 31)) ^^^ (-1 : Int32))) = 0)) || decide (btI r (otI (nI a) (nI v)) ≤ btI r (otI (nI d) (nI v))))
def mRw (n c : Nat) (r : Int32) (v : Nat) : Bool := (List.range' 0 (2 ^ n)).all (fun a => (List.range' 0 (2 ^ n)).all (fun d => mPr c r v a d))
def mHd (n c : Nat) (t : Int32) : Bool := (List.range' 0 n).all (fun v => mRw n c (rwI (nI n) t (nI v)) v)
/-- the class's words -/
def gbE (n : Nat) (r : Int32) (v : Nat) : Bool := (List.range' 0 (2 ^ (n - 1))).all (fun o => decide (btI r (nI o) = btI r (nI o &&& (((1 : Int32) <<< (nI v &&& 31)) - (1 : Int32)))))
def grB (n : Nat) (r : Int32) : Bool := (List.range' 0 (2 ^ (n - 1))).all (fun o => (List.range' 0 (n - 1)).all (fun i => decide (btI r (nI o) ≤ btI r (nI o ||| nI (2 ^ i)))))
def cRw (n c : Nat) (r : Int32) (v : Nat) : Bool := (!decide (c = 1) || gbE n r v) && (!decide (c = 2) || grB n r)
def cHd (n c : Nat) (t : Int32) : Bool := (List.range' 0 n).all (fun v => cRw n c (rwI (nI n) t (nI v)) v)
theorem hd2 : ∀ c, c < 3 → ∀ r, r < 2 ^ 2 ^ (2 - 1) → ∀ v, v < 2 → mRw 2 c (nI r) v = cRw 2 c (nI r) v := by decide +kernel
theorem hd3 : ∀ c, c < 3 → ∀ r, r < 2 ^ 2 ^ (3 - 1) → ∀ v, v < 3 → mRw 3 c (nI r) v = cRw 3 c (nI r) v := by decide +kernel
theorem hd_eq {n c : Nat} (hn : n = 2 ∨ n = 3) (hc : c < 3) (t : Int32) : mHd n c t = cHd n c t := by
  unfold mHd cHd
  have e : ∀ v, v < n → mRw n c (rwI (nI n) t (nI v)) v = cRw n c (rwI (nI n) t (nI v)) v := fun v hv => by
    obtain ⟨r, r1, r2⟩ := rw_lt hn t (nI v)
    rw [r2]
    rcases hn with rfl | rfl
    · exact hd2 c hc r r1 v hv
    · exact hd3 c hc r r1 v hv
  rw [Bool.eq_iff_iff, List.all_eq_true, List.all_eq_true]
  constructor
  · intro z v hv
    rw [← e v (by have := List.mem_range'_1.mp hv; omega)]; exact z v hv
  · intro z v hv
    rw [e v (by have := List.mem_range'_1.mp hv; omega)]; exact z v hv
theorem all_s (p : Nat → Bool) (s d : Nat) : (List.range' s (d + 1)).all p = (p s && (List.range' (s + 1) d).all p) := by rw [List.range'_succ, List.all_cons]
/-- the texts counted: how many, how many have none, the first such, the most -/
abbrev zTx : Type := Nat × Nat × Option Nat × Nat
def shU (n c : Nat) (t : Nat) (s : zTx) : zTx := if cHd n c (nI t) = true then (s.1 + 1, s.2.1 + (if stN n (nI t) = 0 then 1 else 0), (if stN n (nI t) = 0 then (match s.2.2.1 with | none => some t | some x => some x) else s.2.2.1), max s.2.2.2 (stN n (nI t))) else s
def shF (n c : Nat) : Nat → Nat → zTx → zTx
  | 0, _, s => s
  | d + 1, t, s => shF n c d (t + 1) (shU n c t s)
def txN (n : Nat) : Nat := 2 ^ (n * 2 ^ (n - 1))
def shR (n c : Nat) : zTx := shF n c (txN n) 0 (0, 0, none, 0)
def shA (s : zTx) (w : Int32) : Int32 := if w = 0 then nI s.1 else if w = 1 then nI s.2.1 else if w = 2 then oI s.2.2.1 else nI s.2.2.2
theorem st_le {n : Nat} {t : Int32} : stN n t ≤ 2 ^ n := by
  unfold stN
  refine Nat.le_trans (List.length_filter_le _ _) ?_
  rw [List.length_range']; exact Nat.le_refl _
/-! the reference -/
theorem s12_does {n t v a : Int32} (H : Q (some (.int (btI (rwI n t v) (otI a v)))) h) : zC mX12_does [.int n, .int t, .int v, .int a] h Q :=
  nX12_does _ _ _ _ _ _ (bX12_does_0 _ _ _ _ _ _ H)
theorem s12_isBy {n c : Nat} {t : Int32} (hn : n = 2 ∨ n = 3) (hc : c = 1 ∨ c = 2) (H1 : mHd n c t = true → Q (some (.int 1)) h) (H0 : mHd n c t = false → Q (some (.int 0)) h) : zC mX12_isBy [.int (nI n), .int t, .int (nI c)] h Q := by
  have n31 : n < 31 := by omega
  have m16 : 2 ^ n ≤ 8 := by rcases hn with rfl | rfl <;> decide
  have c1 : nI c = 1 ↔ c = 1 := nI_eq (b := 1) (by omega) (by decide)
  have c2 : nI c = 2 ↔ c = 2 := nI_eq (b := 2) (by omega) (by decide)
  have LC : ∀ (k v a d : Nat), d + k = 2 ^ n → (∀ (a' : Nat), a' = a + 1 → ((List.range' a' (2 ^ n - a')).all (fun a => (List.range' 0 (2 ^ n)).all (fun d => mPr c (rwI (nI n) t (nI v)) v a d)) && (List.range' (v + 1) (n - (v + 1))).all (fun v => mRw n c (rwI (nI n) t (nI v)) v)) = mHd n c t → zX mX12_isBy 10 [.int (nI n), .int t, .int (nI c), .int (nI v), .int (nI a'), .float 0, .float 0, .float 0, .float 0, .float 0] [] h Q) → a < 2 ^ n →
      ((List.range' d k).all (fun d => mPr c (rwI (nI n) t (nI v)) v a d) && ((List.range' (a + 1) (2 ^ n - (a + 1))).all (fun a => (List.range' 0 (2 ^ n)).all (fun d => mPr c (rwI (nI n) t (nI v)) v a d)) && (List.range' (v + 1) (n - (v + 1))).all (fun v => mRw n c (rwI (nI n) t (nI v)) v))) = mHd n c t → zX mX12_isBy 21 [.int (nI n), .int t, .int (nI c), .int (nI v), .int (nI a), .int (nI d), .float 0, .float 0, .float 0, .float 0] [] h Q := by
    intro k
    induction k with
    | zero =>
      intro v a d hd go ha e
      have : d = 2 ^ n := by omega
      subst this
      refine bX12_isBy_21 _ _ _ _ _ _ _ _ ?_
      rw [nI_1shl n31, nI_1]
      exact br_t (nI_le (Nat.le_refl _) (by omega)) (go _ rfl (by rw [← e]; rfl))
    | succ k ih =>
      intro v a d hd go ha e
      rw [all_s] at e
      refine bX12_isBy_21 _ _ _ _ _ _ _ _ ?_
      rw [nI_1shl n31]
      have fail : mPr c (rwI (nI n) t (nI v)) v a d = false → Q (some (.int 0)) h := fun z => H0 (by rw [← e, z]; simp)
      have ok : mPr c (rwI (nI n) t (nI v)) v a d = true → zX mX12_isBy 21 [.int (nI n), .int t, .int (nI c), .int (nI v), .int (nI a), .int (nI d + 1), .float 0, .float 0, .float 0, .float 0] [] h Q := fun z => by
        rw [nI_1]
        exact ih v a (d + 1) (by omega) go ha (by rw [← e, z, Bool.true_and])
      refine br_f (nI_ge (by omega) (by omega)) (s12_does ⟨_, rfl, s12_does ⟨_, rfl, ?_⟩⟩)
      unfold mPr at fail ok
      generalize btI (rwI (nI n) t (nI v)) (otI (nI a) (nI v)) = x at *
      generalize btI (rwI (nI n) t (nI v)) (otI (nI d) (nI v)) = y at *
      have at96 : ∀ s0 : Nat, s0 < 2 → decide (s0 = 1) = decide ((nI a &&& (((1 : Int32) <<< (nI v &&& 31)) - (1 : Int32))) = (nI d &&& (((1 : Int32) <<< (nI v &&& 31)) - (1 : Int32)))) → ∀ s1 : Nat, s1 < 2 → decide (s1 = 1) = decide (((nI a &&& (nI d ^^^ (-1 : Int32))) &&& (((1 : Int32) <<< (nI v &&& 31)) ^^^ (-1 : Int32))) = 0) →
          zX mX12_isBy 96 [.int (nI n), .int t, .int (nI c), .int (nI v), .int (nI a), .int (nI d), .int x, .int y, .int (nI s0), .float 0] [.int (nI s1)] h Q := fun s0 h0 e0 s1 h1 e1 => by
        rw [← e0, ← e1] at fail ok
        have k0 : nI s0 = 0 ↔ s0 = 0 := by rw [← nI_0]; exact nI_eq (by omega) (by decide)
        have k1 : nI s1 = 0 ↔ s1 = 0 := by rw [← nI_0]; exact nI_eq (by omega) (by decide)
        have at115 : (!(decide (c = 1) && decide (s0 = 1)) || decide (x = y)) = true → zX mX12_isBy 115 [.int (nI n), .int t, .int (nI c), .int (nI v), .int (nI a), .int (nI d), .int x, .int y, .float 0, .int (nI s1)] [] h Q := fun w => by
          rw [w, Bool.true_and] at fail ok
          refine bX12_isBy_115 _ _ _ _ _ _ _ _ _ _ _ ?_
          rw [c2, k1]
          refine ⟨fun q => ⟨fun q2 => ok (by simp [q, q2]), fun q2 => ⟨fun q3 => ok (by simp [q3]), fun q3 => fail ?_⟩⟩, fun q => ok (by simp [q])⟩
          have : s1 = 1 := by omega
          simp [q, this, q3]
        refine bX12_isBy_96 _ _ _ _ _ _ _ _ _ _ _ _ ?_
        rw [c1, k0]
        refine ⟨fun q => ⟨fun q2 => at115 (by simp [q, q2]), fun q2 => ⟨fun q3 => at115 (by simp [q3]), fun q3 => fail ?_⟩⟩, fun q => at115 (by simp [q])⟩
        have : s0 = 1 := by omega
        simp [q, this, q3]
      have at73 : ∀ s0 : Nat, s0 < 2 → decide (s0 = 1) = decide ((nI a &&& (((1 : Int32) <<< (nI v &&& 31)) - (1 : Int32))) = (nI d &&& (((1 : Int32) <<< (nI v &&& 31)) - (1 : Int32)))) → zX mX12_isBy 73 [.int (nI n), .int t, .int (nI c), .int (nI v), .int (nI a), .int (nI d), .int x, .int y, .float 0, .float 0] [.int (nI s0)] h Q := fun s0 h0 e0 =>
        bX12_isBy_73 _ _ _ _ _ _ _ _ _ _ _ ⟨fun q => at96 s0 h0 e0 1 (by decide) (by rw [decide_eq_true q]; rfl), fun q => at96 s0 h0 e0 0 (by decide) (by rw [decide_eq_false q]; rfl)⟩
      exact ⟨fun q => at73 1 (by decide) (by rw [decide_eq_true q]; rfl), fun q => at73 0 (by decide) (by rw [decide_eq_false q]; rfl)⟩
  have LB : ∀ (k v a : Nat), a + k = 2 ^ n → (∀ v', v' = v + 1 → (List.range' v' (n - v')).all (fun v => mRw n c (rwI (nI n) t (nI v)) v) = mHd n c t → zX mX12_isBy 2 [.int (nI n), .int t, .int (nI c), .int (nI v'), .float 0, .float 0, .float 0, .float 0, .float 0, .float 0] [] h Q) → v < n →
      ((List.range' a k).all (fun a => (List.range' 0 (2 ^ n)).all (fun d => mPr c (rwI (nI n) t (nI v)) v a d)) && (List.range' (v + 1) (n - (v + 1))).all (fun v => mRw n c (rwI (nI n) t (nI v)) v)) = mHd n c t → zX mX12_isBy 10 [.int (nI n), .int t, .int (nI c), .int (nI v), .int (nI a), .float 0, .float 0, .float 0, .float 0, .float 0] [] h Q := by
    intro k
    induction k with
    | zero =>
      intro v a ha go hv e
      have : a = 2 ^ n := by omega
      subst this
      refine bX12_isBy_10 _ _ _ _ _ _ _ ?_
      rw [nI_1shl n31, nI_1]
      exact br_t (nI_le (Nat.le_refl _) (by omega)) (go _ rfl (by rw [← e]; rfl))
    | succ k ih =>
      intro v a ha go hv e
      rw [all_s] at e
      refine bX12_isBy_10 _ _ _ _ _ _ _ ?_
      rw [nI_1shl n31]
      refine br_f (nI_ge (by omega) (by omega)) (LC (2 ^ n) v a 0 (by omega) (fun a' ea e' => ?_) (by omega) (by rw [← e, show 2 ^ n - (a + 1) = k by omega, Bool.and_assoc]))
      subst ea
      refine ih v (a + 1) (by omega) go hv ?_
      rw [show 2 ^ n - (a + 1) = k by omega] at e'
      exact e'
  have LA : ∀ (k v : Nat), v + k = n → (List.range' v k).all (fun v => mRw n c (rwI (nI n) t (nI v)) v) = mHd n c t → zX mX12_isBy 2 [.int (nI n), .int t, .int (nI c), .int (nI v), .float 0, .float 0, .float 0, .float 0, .float 0, .float 0] [] h Q := by
    intro k
    induction k with
    | zero =>
      intro v hv e
      have : v = n := by omega
      subst this
      exact bX12_isBy_2 _ _ _ _ _ _ (br_t (nI_le (Nat.le_refl _) (by omega)) (H1 (by rw [← e]; rfl)))
    | succ k ih =>
      intro v hv e
      rw [all_s] at e
      refine bX12_isBy_2 _ _ _ _ _ _ (br_f (nI_ge (by omega) (by omega)) (LB (2 ^ n) v 0 (by omega) (fun v' ev e' => ?_) (by omega) (by rw [← e, show n - (v + 1) = k by omega]; rfl)))
      subst ev
      refine ih (v + 1) (by omega) ?_
      rw [show n - (v + 1) = k by omega] at e'
      exact e'
  exact nX12_isBy _ _ _ _ _ (bX12_isBy_0 _ _ _ _ _ (LA n 0 (by omega) rfl))
theorem s12_standing {n : Nat} {t : Int32} (hn : n = 2 ∨ n = 3) (H : Q (some (.int (nI (stN n t)))) h) : zC mX12_standing [.int (nI n), .int t] h Q := by
  have n31 : n < 31 := by omega
  have m16 : 2 ^ n ≤ 8 := by rcases hn with rfl | rfl <;> decide
  have LB : ∀ (a c : Nat), (∀ c', c' = c + (if agT n t a = true then 1 else 0) → zX mX12_standing 4 [.int (nI n), .int t, .int (nI c'), .int (nI (a + 1)), .float 0, .float 0] [] h Q) → ∀ (k v is : Nat), v + k = n → is < 2 → (decide (is = 1) && (List.range' v k).all (fun v => decide (btI (rwI (nI n) t (nI v)) (otI (nI a) (nI v)) = btI (nI a) (nI v)))) = agT n t a → zX mX12_standing 17 [.int (nI n), .int t, .int (nI c), .int (nI a), .int (nI is), .int (nI v)] [] h Q := by
    intro a c go k
    induction k with
    | zero =>
      intro v is hv hi e
      have : v = n := by omega
      subst this
      have k0 : nI is = 0 ↔ is = 0 := by rw [← nI_0]; exact nI_eq (by omega) (by decide)
      refine bX12_standing_17 _ _ _ _ _ _ _ _ (br_t (nI_le (Nat.le_refl _) (by omega)) ?_)
      rw [k0, nI_1 a, nI_1 c, Int32.add_zero]
      refine ⟨fun q => go c ?_, fun q => go (c + 1) ?_⟩
      · rw [← e]; simp [q]
      · have : is = 1 := by omega
        rw [← e]; simp [this]
    | succ k ih =>
      intro v is hv hi e
      rw [all_s] at e
      have k0 : nI is = 0 ↔ is = 0 := by rw [← nI_0]; exact nI_eq (by omega) (by decide)
      refine bX12_standing_17 _ _ _ _ _ _ _ _ (br_f (nI_ge (by omega) (by omega)) ?_)
      rw [k0, nI_1]
      refine ⟨fun q => ih (v + 1) 0 (by omega) (by decide) (by rw [← e]; simp [q]), fun q => s12_does ⟨_, rfl, fun q2 => ih (v + 1) 1 (by omega) (by decide) ?_, fun q2 => ih (v + 1) 0 (by omega) (by decide) ?_⟩⟩
      · have : is = 1 := by omega
        have q2' : btI (rwI (nI n) t (nI v)) (otI (nI a) (nI v)) = btI (nI a) (nI v) := q2
        rw [← e]; simp [this, q2']
      · have q2' : ¬ btI (rwI (nI n) t (nI v)) (otI (nI a) (nI v)) = btI (nI a) (nI v) := q2
        rw [← e]; simp [q2']
  have LA : ∀ (k a c : Nat), a + k = 2 ^ n → c + ((List.range' a k).filter (agT n t)).length = stN n t → zX mX12_standing 4 [.int (nI n), .int t, .int (nI c), .int (nI a), .float 0, .float 0] [] h Q := by
    intro k
    induction k with
    | zero =>
      intro a c ha e
      have : a = 2 ^ n := by omega
      subst this
      refine bX12_standing_4 _ _ _ _ _ _ ?_
      rw [nI_1shl n31]
      refine br_t (nI_le (Nat.le_refl _) (by omega)) ?_
      rw [← e] at H
      simpa using H
    | succ k ih =>
      intro a c ha e
      rw [flt_s] at e
      refine bX12_standing_4 _ _ _ _ _ _ ?_
      rw [nI_1shl n31]
      refine br_f (nI_ge (by omega) (by omega)) (LB a c (fun c' ec => ih (a + 1) c' (by omega) ?_) n 0 1 (by omega) (by decide) (by rfl))
      by_cases z : agT n t a = true
      · rw [if_pos z, List.length_cons] at e
        rw [ec, if_pos z]; omega
      · rw [if_neg z] at e
        rw [ec, if_neg z]; omega
  exact nX12_standing _ _ _ _ (bX12_standing_0 _ _ _ _ (LA (2 ^ n) 0 0 (by omega) (by rw [Nat.zero_add]; rfl)))
end

/-! ===== a heap read flat ===== -/
def gF (h : zH) (a k : Nat) : Value := match h.2.2 a with
  | .inl (_, fs) => fs.getD k .null
  | _ => .null
def vI : Value → Int32
  | .int x => x
  | _ => 0
def vL : Value → Int64
  | .long x => x
  | _ => 0
def vR : Value → Option Nat
  | .ref b => some b
  | _ => none
/-- a field: an int, a long, a reference -/
def gI (h : zH) (a k : Nat) : Int32 := vI (gF h a k)
def gL (h : zH) (a k : Nat) : Int64 := vL (gF h a k)
def gR (h : zH) (a k : Nat) : Option Nat := vR (gF h a k)
/-- a row: its length, its places -/
def aN (h : zH) (a : Nat) : Nat := match h.2.2 a with
  | .inl _ => 0
  | .inr (.inl (_, n, _)) => n
  | .inr (.inr (.inl (n, _))) => n
  | .inr (.inr (.inr (_, n, _))) => n
def aI (h : zH) (a i : Nat) : Int32 := match h.2.2 a with
  | .inr (.inl (_, _, f)) => f i
  | _ => 0
def aL (h : zH) (a i : Nat) : Int64 := match h.2.2 a with
  | .inr (.inr (.inl (_, f))) => f i
  | _ => 0
def aR (h : zH) (a i : Nat) : Option Nat := match h.2.2 a with
  | .inr (.inr (.inr (_, _, f))) => f i
  | _ => none
def zm : Nat → Value → Bool
  | 0, .int _ => true
  | 1, .long _ => true
  | 2, .ref _ => true
  | 2, .null => true
  | _, _ => false
def zmt : List Nat → List Value → Bool
  | [], [] => true
  | t :: ts, v :: vs => zm t v && zmt ts vs
  | _, _ => false
/-- kinds of the fields: 0 int, 1 long, 2 reference -/
def zkd : Nat → List Nat
  | 0 => [2, 0, 0, 0]
  | 1 => [2, 2, 2, 0, 0]
  | 2 => [2, 2, 2, 2, 0, 0, 0]
  | 3 => [2, 0, 0, 0, 0]
  | 4 => [2, 2, 2, 2, 0, 0, 0, 0, 0, 0, 0, 0, 0, 0]
  | 5 => [2, 2, 2, 2, 2, 0, 0, 0, 0]
  | 6 => [2, 0]
  | 7 => [2, 2, 2, 0]
  | 8 => [2, 2, 2, 2, 2, 0, 0, 0, 0, 0, 1]
  | 9 => [0, 0, 0, 0, 0, 0]
  | 10 => [2, 2, 2, 2, 2, 2, 0, 0, 0, 0]
  | 11 => [2, 2, 2, 2, 2, 2, 2, 2, 2, 2, 2, 2, 0, 0, 0]
  | 12 => [2, 2, 0, 0, 0, 0, 0, 0, 0, 0, 1, 2, 2, 2, 2, 2, 2, 2, 2, 2, 2, 2, 2, 2, 2, 2, 0, 0, 2, 2, 2, 2, 0, 0, 0, 0, 0, 0, 2, 2, 0, 2, 2, 0, 2, 2, 2, 2, 2, 2, 2, 2, 2, 2, 0, 0, 2, 2, 2, 2, 2, 2]
  | _ => []
/-- an object of class ci; a row of ints of kind t, of longs, of references of kind t -/
def oK (h : zH) (a ci : Nat) : Prop := a < h.1 ∧ ∃ fs, h.2.2 a = zO ci fs ∧ zmt (zkd ci) fs = true
def iK (h : zH) (a t : Nat) : Prop := a < h.1 ∧ ∃ n f, h.2.2 a = zI t n f
def lK (h : zH) (a : Nat) : Prop := a < h.1 ∧ ∃ n f, h.2.2 a = zL n f
def rK (h : zH) (a t : Nat) : Prop := a < h.1 ∧ ∃ n f, h.2.2 a = zR t n f
/-! stores -/
def pF (h : zH) (a k : Nat) (v : Value) : zH := (h.1, h.2.1, va_up h.2.2 a (match h.2.2 a with
  | .inl (ci, fs) => .inl (ci, fs.set k v)
  | e => e))
def pI (h : zH) (a i : Nat) (x : Int32) : zH := (h.1, h.2.1, va_up h.2.2 a (match h.2.2 a with
  | .inr (.inl (t, n, f)) => .inr (.inl (t, n, upd f i x))
  | e => e))
def pL (h : zH) (a i : Nat) (x : Int64) : zH := (h.1, h.2.1, va_up h.2.2 a (match h.2.2 a with
  | .inr (.inr (.inl (n, f))) => .inr (.inr (.inl (n, vp_updL f i x)))
  | e => e))
def pR (h : zH) (a i : Nat) (x : Option Nat) : zH := (h.1, h.2.1, va_up h.2.2 a (match h.2.2 a with
  | .inr (.inr (.inr (t, n, f))) => .inr (.inr (.inr (t, n, va_up f i x)))
  | e => e))
theorem zmt_len : ∀ (ts : List Nat) (vs : List Value), zmt ts vs = true → vs.length = ts.length
  | [], [], _ => rfl
  | t :: ts, v :: vs, h => by
    simp only [zmt, Bool.and_eq_true] at h
    simp [zmt_len ts vs h.2]
  | [], _ :: _, h => by cases h
  | _ :: _, [], h => by cases h
theorem zmt_at : ∀ (ts : List Nat) (vs : List Value), zmt ts vs = true → ∀ (k t : Nat), ts[k]? = some t → zm t (vs.getD k .null) = true
  | [], _, _, k, t, h => by simp at h
  | u :: ts, v :: vs, h, k, t, hk => by
    simp only [zmt, Bool.and_eq_true] at h
    cases k with
    | zero => simp at hk; subst hk; simpa using h.1
    | succ k => simpa using zmt_at ts vs h.2 k t (by simpa using hk)
  | _ :: _, [], h, _, _, _ => by cases h
theorem zmt_set : ∀ (ts : List Nat) (vs : List Value) (k : Nat) (v : Value), zmt ts vs = true → (∀ t, ts[k]? = some t → zm t v = true) → zmt ts (vs.set k v) = true
  | [], [], k, v, _, _ => rfl
  | t :: ts, w :: vs, k, v, h, hv => by
    simp only [zmt, Bool.and_eq_true] at h
    cases k with
    | zero => simp only [List.set_cons_zero, zmt, Bool.and_eq_true]; exact ⟨hv t rfl, h.2⟩
    | succ k => simp only [List.set_cons_succ, zmt, Bool.and_eq_true]; exact ⟨h.1, zmt_set ts vs k v h.2 (fun t ht => hv t (by simpa using ht))⟩
  | [], _ :: _, _, _, h, _ => by cases h
  | _ :: _, [], _, _, h, _ => by cases h
theorem oK_at {h : zH} {a ci k t : Nat} (ho : oK h a ci) (hk : (zkd ci)[k]? = some t) : ∃ fs, zg h a (zO ci fs) ∧ fs[k]? = some (gF h a k) ∧ zm t (gF h a k) = true ∧ k < fs.length := by
  obtain ⟨h1, fs, h2, h3⟩ := ho
  have hlen := zmt_len _ _ h3
  have hkl : k < fs.length := by rw [hlen]; exact (List.getElem?_eq_some_iff.mp hk).1
  have hg : gF h a k = fs.getD k .null := by simp [gF, h2]
  refine ⟨fs, ⟨h1, h2⟩, ?_, ?_, hkl⟩
  · rw [hg, List.getD_eq_getElem?_getD, List.getElem?_eq_getElem hkl]; rfl
  · rw [hg]; exact zmt_at _ _ h3 k t hk
theorem gI_v {h : zH} {a k : Nat} (hm : zm 0 (gF h a k) = true) : gF h a k = .int (gI h a k) := by
  unfold gI; cases e : gF h a k <;> simp [e, zm, vI] at hm ⊢
theorem gL_v {h : zH} {a k : Nat} (hm : zm 1 (gF h a k) = true) : gF h a k = .long (gL h a k) := by
  unfold gL; cases e : gF h a k <;> simp [e, zm, vL] at hm ⊢
theorem gR_v {h : zH} {a k : Nat} (hm : zm 2 (gF h a k) = true) : gF h a k = zr (gR h a k) := by
  unfold gR; cases e : gF h a k <;> simp [e, zm, vR, zr] at hm ⊢
theorem gF_pF_s {h : zH} {a ci k : Nat} {v : Value} (ho : oK h a ci) (hk : k < (zkd ci).length) : gF (pF h a k v) a k = v := by
  obtain ⟨h1, fs, h2, h3⟩ := ho
  have hlen := zmt_len _ _ h3
  simp only [gF, pF, va_up, h2, if_true]
  rw [List.getD_eq_getElem?_getD, List.getElem?_set_self (by omega)]; rfl
theorem gF_pF_n {h : zH} {a b k j : Nat} {v : Value} (hn : b ≠ a ∨ j ≠ k) : gF (pF h a k v) b j = gF h b j := by
  simp only [gF, pF, va_up]
  by_cases hb : b = a
  · subst hb
    have hj : j ≠ k := by rcases hn with h | h; exact absurd rfl h; exact h
    rw [if_pos rfl]
    cases e : h.2.2 b with
    | inl q =>
      obtain ⟨ci, fs⟩ := q
      simp only [List.getD_eq_getElem?_getD, List.getElem?_set_ne (Ne.symm hj)]
    | inr q => rfl
  · rw [if_neg hb]
theorem gI_pF_s {h : zH} {a ci k : Nat} {x : Int32} (ho : oK h a ci) (hk : k < (zkd ci).length) : gI (pF h a k (.int x)) a k = x := by rw [gI, gF_pF_s ho hk]; rfl
theorem gL_pF_s {h : zH} {a ci k : Nat} {x : Int64} (ho : oK h a ci) (hk : k < (zkd ci).length) : gL (pF h a k (.long x)) a k = x := by rw [gL, gF_pF_s ho hk]; rfl
theorem gR_pF_s {h : zH} {a ci k : Nat} {x : Option Nat} (ho : oK h a ci) (hk : k < (zkd ci).length) : gR (pF h a k (zr x)) a k = x := by rw [gR, gF_pF_s ho hk]; cases x <;> rfl
theorem gI_pF_n {h : zH} {a b k j : Nat} {v : Value} (hn : b ≠ a ∨ j ≠ k) : gI (pF h a k v) b j = gI h b j := by rw [gI, gF_pF_n hn]; rfl
theorem gL_pF_n {h : zH} {a b k j : Nat} {v : Value} (hn : b ≠ a ∨ j ≠ k) : gL (pF h a k v) b j = gL h b j := by rw [gL, gF_pF_n hn]; rfl
theorem gR_pF_n {h : zH} {a b k j : Nat} {v : Value} (hn : b ≠ a ∨ j ≠ k) : gR (pF h a k v) b j = gR h b j := by rw [gR, gF_pF_n hn]; rfl
theorem pF_ne {h : zH} {a k : Nat} {v : Value} {b : Nat} (hb : b ≠ a) : (pF h a k v).2.2 b = h.2.2 b := by simp [pF, va_up, hb]
theorem pI_ne {h : zH} {a i : Nat} {x : Int32} {b : Nat} (hb : b ≠ a) : (pI h a i x).2.2 b = h.2.2 b := by simp [pI, va_up, hb]
theorem pL_ne {h : zH} {a i : Nat} {x : Int64} {b : Nat} (hb : b ≠ a) : (pL h a i x).2.2 b = h.2.2 b := by simp [pL, va_up, hb]
theorem pR_ne {h : zH} {a i : Nat} {x : Option Nat} {b : Nat} (hb : b ≠ a) : (pR h a i x).2.2 b = h.2.2 b := by simp [pR, va_up, hb]
theorem oK_pF {h : zH} {a b k ci : Nat} {v : Value} (hv : ∀ c t, oK h a c → (zkd c)[k]? = some t → zm t v = true) (ho : oK h b ci) : oK (pF h a k v) b ci := by
  obtain ⟨h1, fs, h2, h3⟩ := ho
  refine ⟨h1, ?_⟩
  by_cases hb : b = a
  · subst hb
    refine ⟨fs.set k v, by simp [pF, va_up, h2], zmt_set _ _ _ _ h3 fun t ht => hv ci t ⟨h1, fs, h2, h3⟩ ht⟩
  · exact ⟨fs, by rw [pF_ne hb]; exact h2, h3⟩
theorem gF_pI {h : zH} {a b i k : Nat} {x : Int32} : gF (pI h a i x) b k = gF h b k := by
  by_cases hb : b = a
  · subst hb
    unfold gF pI
    simp only [va_up, if_true]
    rcases e : h.2.2 b with ⟨ci, fs⟩ | ⟨t, n, f⟩ | ⟨n, f⟩ | ⟨t, n, f⟩ <;> rfl
  · unfold gF; rw [pI_ne hb]
theorem gI_pI {h : zH} {a b i k : Nat} {x : Int32} : gI (pI h a i x) b k = gI h b k := by unfold gI; rw [gF_pI]
theorem gL_pI {h : zH} {a b i k : Nat} {x : Int32} : gL (pI h a i x) b k = gL h b k := by unfold gL; rw [gF_pI]
theorem gR_pI {h : zH} {a b i k : Nat} {x : Int32} : gR (pI h a i x) b k = gR h b k := by unfold gR; rw [gF_pI]
theorem aN_pI {h : zH} {a b i : Nat} {x : Int32} : aN (pI h a i x) b = aN h b := by
  by_cases hb : b = a
  · subst hb
    unfold aN pI
    simp only [va_up, if_true]
    rcases e : h.2.2 b with ⟨ci, fs⟩ | ⟨t, n, f⟩ | ⟨n, f⟩ | ⟨t, n, f⟩ <;> rfl
  · unfold aN; rw [pI_ne hb]
theorem aI_pI_s {h : zH} {a i : Nat} {x : Int32} (ho : ∃ t, iK h a t) : aI (pI h a i x) a i = x := by
  obtain ⟨t, h1, n, f, h2⟩ := ho
  unfold aI pI
  simp only [va_up, if_true, h2, upd]
theorem aI_pI_n {h : zH} {a b i j : Nat} {x : Int32} (hn : b ≠ a ∨ j ≠ i) : aI (pI h a i x) b j = aI h b j := by
  by_cases hb : b = a
  · subst hb
    have hj : j ≠ i := by rcases hn with h | h; exact absurd rfl h; exact h
    unfold aI pI
    simp only [va_up, if_true]
    rcases e : h.2.2 b with ⟨ci, fs⟩ | ⟨t, n, f⟩ | ⟨n, f⟩ | ⟨t, n, f⟩ <;> first | rfl | simp [upd, va_up, hj]
  · unfold aI; rw [pI_ne hb]
theorem aI_pI {h : zH} {a b i j : Nat} {x : Int32} (ho : ∃ t, iK h a t) : aI (pI h a i x) b j = if b = a ∧ j = i then x else aI h b j := by
  split
  · next hc => obtain ⟨rfl, rfl⟩ := hc; exact aI_pI_s ho
  · next hc => exact aI_pI_n (by by_cases hb : b = a; exact Or.inr (fun z => hc ⟨hb, z⟩); exact Or.inl hb)
theorem aL_pI {h : zH} {a b i j : Nat} {x : Int32} : aL (pI h a i x) b j = aL h b j := by
  by_cases hb : b = a
  · subst hb
    unfold aL pI
    simp only [va_up, if_true]
    rcases e : h.2.2 b with ⟨ci, fs⟩ | ⟨t, n, f⟩ | ⟨n, f⟩ | ⟨t, n, f⟩ <;> rfl
  · unfold aL; rw [pI_ne hb]
theorem aR_pI {h : zH} {a b i j : Nat} {x : Int32} : aR (pI h a i x) b j = aR h b j := by
  by_cases hb : b = a
  · subst hb
    unfold aR pI
    simp only [va_up, if_true]
    rcases e : h.2.2 b with ⟨ci, fs⟩ | ⟨t, n, f⟩ | ⟨n, f⟩ | ⟨t, n, f⟩ <;> rfl
  · unfold aR; rw [pI_ne hb]
theorem oK_pI {h : zH} {a b i : Nat} {ci : Nat} {x : Int32} (ho : oK h b ci) : oK (pI h a i x) b ci := by
  obtain ⟨h1, fs, h2, h3⟩ := ho
  by_cases hb : b = a
  · subst hb; exact ⟨h1, fs, by simp [pI, va_up, h2], h3⟩
  · exact ⟨h1, fs, by rw [pI_ne hb]; exact h2, h3⟩
theorem iK_pI {h : zH} {a b i : Nat} {t : Nat} {x : Int32} (ho : iK h b t) : iK (pI h a i x) b t := by
  obtain ⟨h1, n, f, h2⟩ := ho
  by_cases hb : b = a
  · subst hb; exact ⟨h1, n, _, by simp only [pI, va_up, if_true, h2]; rfl⟩
  · exact ⟨h1, n, f, by rw [pI_ne hb]; exact h2⟩
theorem lK_pI {h : zH} {a b i : Nat}  {x : Int32} (ho : lK h b) : lK (pI h a i x) b := by
  obtain ⟨h1, n, f, h2⟩ := ho
  by_cases hb : b = a
  · subst hb; exact ⟨h1, n, _, by simp only [pI, va_up, if_true, h2]; rfl⟩
  · exact ⟨h1, n, f, by rw [pI_ne hb]; exact h2⟩
theorem rK_pI {h : zH} {a b i : Nat} {t : Nat} {x : Int32} (ho : rK h b t) : rK (pI h a i x) b t := by
  obtain ⟨h1, n, f, h2⟩ := ho
  by_cases hb : b = a
  · subst hb; exact ⟨h1, n, _, by simp only [pI, va_up, if_true, h2]; rfl⟩
  · exact ⟨h1, n, f, by rw [pI_ne hb]; exact h2⟩
theorem gF_pL {h : zH} {a b i k : Nat} {x : Int64} : gF (pL h a i x) b k = gF h b k := by
  by_cases hb : b = a
  · subst hb
    unfold gF pL
    simp only [va_up, if_true]
    rcases e : h.2.2 b with ⟨ci, fs⟩ | ⟨t, n, f⟩ | ⟨n, f⟩ | ⟨t, n, f⟩ <;> rfl
  · unfold gF; rw [pL_ne hb]
theorem gI_pL {h : zH} {a b i k : Nat} {x : Int64} : gI (pL h a i x) b k = gI h b k := by unfold gI; rw [gF_pL]
theorem gL_pL {h : zH} {a b i k : Nat} {x : Int64} : gL (pL h a i x) b k = gL h b k := by unfold gL; rw [gF_pL]
theorem gR_pL {h : zH} {a b i k : Nat} {x : Int64} : gR (pL h a i x) b k = gR h b k := by unfold gR; rw [gF_pL]
theorem aN_pL {h : zH} {a b i : Nat} {x : Int64} : aN (pL h a i x) b = aN h b := by
  by_cases hb : b = a
  · subst hb
    unfold aN pL
    simp only [va_up, if_true]
    rcases e : h.2.2 b with ⟨ci, fs⟩ | ⟨t, n, f⟩ | ⟨n, f⟩ | ⟨t, n, f⟩ <;> rfl
  · unfold aN; rw [pL_ne hb]
theorem aI_pL {h : zH} {a b i j : Nat} {x : Int64} : aI (pL h a i x) b j = aI h b j := by
  by_cases hb : b = a
  · subst hb
    unfold aI pL
    simp only [va_up, if_true]
    rcases e : h.2.2 b with ⟨ci, fs⟩ | ⟨t, n, f⟩ | ⟨n, f⟩ | ⟨t, n, f⟩ <;> rfl
  · unfold aI; rw [pL_ne hb]
theorem aL_pL_s {h : zH} {a i : Nat} {x : Int64} (ho : lK h a) : aL (pL h a i x) a i = x := by
  obtain ⟨h1, n, f, h2⟩ := ho
  unfold aL pL
  simp only [va_up, if_true, h2, vp_updL]
theorem aL_pL_n {h : zH} {a b i j : Nat} {x : Int64} (hn : b ≠ a ∨ j ≠ i) : aL (pL h a i x) b j = aL h b j := by
  by_cases hb : b = a
  · subst hb
    have hj : j ≠ i := by rcases hn with h | h; exact absurd rfl h; exact h
    unfold aL pL
    simp only [va_up, if_true]
    rcases e : h.2.2 b with ⟨ci, fs⟩ | ⟨t, n, f⟩ | ⟨n, f⟩ | ⟨t, n, f⟩ <;> first | rfl | simp [vp_updL, va_up, hj]
  · unfold aL; rw [pL_ne hb]
theorem aL_pL {h : zH} {a b i j : Nat} {x : Int64} (ho : lK h a) : aL (pL h a i x) b j = if b = a ∧ j = i then x else aL h b j := by
  split
  · next hc => obtain ⟨rfl, rfl⟩ := hc; exact aL_pL_s ho
  · next hc => exact aL_pL_n (by by_cases hb : b = a; exact Or.inr (fun z => hc ⟨hb, z⟩); exact Or.inl hb)
theorem aR_pL {h : zH} {a b i j : Nat} {x : Int64} : aR (pL h a i x) b j = aR h b j := by
  by_cases hb : b = a
  · subst hb
    unfold aR pL
    simp only [va_up, if_true]
    rcases e : h.2.2 b with ⟨ci, fs⟩ | ⟨t, n, f⟩ | ⟨n, f⟩ | ⟨t, n, f⟩ <;> rfl
  · unfold aR; rw [pL_ne hb]
theorem oK_pL {h : zH} {a b i : Nat} {ci : Nat} {x : Int64} (ho : oK h b ci) : oK (pL h a i x) b ci := by
  obtain ⟨h1, fs, h2, h3⟩ := ho
  by_cases hb : b = a
  · subst hb; exact ⟨h1, fs, by simp [pL, va_up, h2], h3⟩
  · exact ⟨h1, fs, by rw [pL_ne hb]; exact h2, h3⟩
theorem iK_pL {h : zH} {a b i : Nat} {t : Nat} {x : Int64} (ho : iK h b t) : iK (pL h a i x) b t := by
  obtain ⟨h1, n, f, h2⟩ := ho
  by_cases hb : b = a
  · subst hb; exact ⟨h1, n, _, by simp only [pL, va_up, if_true, h2]; rfl⟩
  · exact ⟨h1, n, f, by rw [pL_ne hb]; exact h2⟩
theorem lK_pL {h : zH} {a b i : Nat}  {x : Int64} (ho : lK h b) : lK (pL h a i x) b := by
  obtain ⟨h1, n, f, h2⟩ := ho
  by_cases hb : b = a
  · subst hb; exact ⟨h1, n, _, by simp only [pL, va_up, if_true, h2]; rfl⟩
  · exact ⟨h1, n, f, by rw [pL_ne hb]; exact h2⟩
theorem rK_pL {h : zH} {a b i : Nat} {t : Nat} {x : Int64} (ho : rK h b t) : rK (pL h a i x) b t := by
  obtain ⟨h1, n, f, h2⟩ := ho
  by_cases hb : b = a
  · subst hb; exact ⟨h1, n, _, by simp only [pL, va_up, if_true, h2]; rfl⟩
  · exact ⟨h1, n, f, by rw [pL_ne hb]; exact h2⟩
theorem gF_pR {h : zH} {a b i k : Nat} {x : Option Nat} : gF (pR h a i x) b k = gF h b k := by
  by_cases hb : b = a
  · subst hb
    unfold gF pR
    simp only [va_up, if_true]
    rcases e : h.2.2 b with ⟨ci, fs⟩ | ⟨t, n, f⟩ | ⟨n, f⟩ | ⟨t, n, f⟩ <;> rfl
  · unfold gF; rw [pR_ne hb]
theorem gI_pR {h : zH} {a b i k : Nat} {x : Option Nat} : gI (pR h a i x) b k = gI h b k := by unfold gI; rw [gF_pR]
theorem gL_pR {h : zH} {a b i k : Nat} {x : Option Nat} : gL (pR h a i x) b k = gL h b k := by unfold gL; rw [gF_pR]
theorem gR_pR {h : zH} {a b i k : Nat} {x : Option Nat} : gR (pR h a i x) b k = gR h b k := by unfold gR; rw [gF_pR]
theorem aN_pR {h : zH} {a b i : Nat} {x : Option Nat} : aN (pR h a i x) b = aN h b := by
  by_cases hb : b = a
  · subst hb
    unfold aN pR
    simp only [va_up, if_true]
    rcases e : h.2.2 b with ⟨ci, fs⟩ | ⟨t, n, f⟩ | ⟨n, f⟩ | ⟨t, n, f⟩ <;> rfl
  · unfold aN; rw [pR_ne hb]
theorem aI_pR {h : zH} {a b i j : Nat} {x : Option Nat} : aI (pR h a i x) b j = aI h b j := by
  by_cases hb : b = a
  · subst hb
    unfold aI pR
    simp only [va_up, if_true]
    rcases e : h.2.2 b with ⟨ci, fs⟩ | ⟨t, n, f⟩ | ⟨n, f⟩ | ⟨t, n, f⟩ <;> rfl
  · unfold aI; rw [pR_ne hb]
theorem aL_pR {h : zH} {a b i j : Nat} {x : Option Nat} : aL (pR h a i x) b j = aL h b j := by
  by_cases hb : b = a
  · subst hb
    unfold aL pR
    simp only [va_up, if_true]
    rcases e : h.2.2 b with ⟨ci, fs⟩ | ⟨t, n, f⟩ | ⟨n, f⟩ | ⟨t, n, f⟩ <;> rfl
  · unfold aL; rw [pR_ne hb]
theorem aR_pR_s {h : zH} {a i : Nat} {x : Option Nat} (ho : ∃ t, rK h a t) : aR (pR h a i x) a i = x := by
  obtain ⟨t, h1, n, f, h2⟩ := ho
  unfold aR pR
  simp only [va_up, if_true, h2, va_up]
theorem aR_pR_n {h : zH} {a b i j : Nat} {x : Option Nat} (hn : b ≠ a ∨ j ≠ i) : aR (pR h a i x) b j = aR h b j := by
  by_cases hb : b = a
  · subst hb
    have hj : j ≠ i := by rcases hn with h | h; exact absurd rfl h; exact h
    unfold aR pR
    simp only [va_up, if_true]
    rcases e : h.2.2 b with ⟨ci, fs⟩ | ⟨t, n, f⟩ | ⟨n, f⟩ | ⟨t, n, f⟩ <;> first | rfl | simp [va_up, va_up, hj]
  · unfold aR; rw [pR_ne hb]
theorem aR_pR {h : zH} {a b i j : Nat} {x : Option Nat} (ho : ∃ t, rK h a t) : aR (pR h a i x) b j = if b = a ∧ j = i then x else aR h b j := by
  split
  · next hc => obtain ⟨rfl, rfl⟩ := hc; exact aR_pR_s ho
  · next hc => exact aR_pR_n (by by_cases hb : b = a; exact Or.inr (fun z => hc ⟨hb, z⟩); exact Or.inl hb)
theorem oK_pR {h : zH} {a b i : Nat} {ci : Nat} {x : Option Nat} (ho : oK h b ci) : oK (pR h a i x) b ci := by
  obtain ⟨h1, fs, h2, h3⟩ := ho
  by_cases hb : b = a
  · subst hb; exact ⟨h1, fs, by simp [pR, va_up, h2], h3⟩
  · exact ⟨h1, fs, by rw [pR_ne hb]; exact h2, h3⟩
theorem iK_pR {h : zH} {a b i : Nat} {t : Nat} {x : Option Nat} (ho : iK h b t) : iK (pR h a i x) b t := by
  obtain ⟨h1, n, f, h2⟩ := ho
  by_cases hb : b = a
  · subst hb; exact ⟨h1, n, _, by simp only [pR, va_up, if_true, h2]; rfl⟩
  · exact ⟨h1, n, f, by rw [pR_ne hb]; exact h2⟩
theorem lK_pR {h : zH} {a b i : Nat}  {x : Option Nat} (ho : lK h b) : lK (pR h a i x) b := by
  obtain ⟨h1, n, f, h2⟩ := ho
  by_cases hb : b = a
  · subst hb; exact ⟨h1, n, _, by simp only [pR, va_up, if_true, h2]; rfl⟩
  · exact ⟨h1, n, f, by rw [pR_ne hb]; exact h2⟩
theorem rK_pR {h : zH} {a b i : Nat} {t : Nat} {x : Option Nat} (ho : rK h b t) : rK (pR h a i x) b t := by
  obtain ⟨h1, n, f, h2⟩ := ho
  by_cases hb : b = a
  · subst hb; exact ⟨h1, n, _, by simp only [pR, va_up, if_true, h2]; rfl⟩
  · exact ⟨h1, n, f, by rw [pR_ne hb]; exact h2⟩
theorem aN_pF {h : zH} {a b k : Nat} {v : Value} : aN (pF h a k v) b = aN h b := by
  by_cases hb : b = a
  · subst hb
    unfold aN pF
    simp only [va_up, if_true]
    rcases e : h.2.2 b with ⟨ci, fs⟩ | ⟨t, n, f⟩ | ⟨n, f⟩ | ⟨t, n, f⟩ <;> rfl
  · unfold aN; rw [pF_ne hb]
theorem aI_pF {h : zH} {a b k j : Nat} {v : Value} : aI (pF h a k v) b j = aI h b j := by
  by_cases hb : b = a
  · subst hb
    unfold aI pF
    simp only [va_up, if_true]
    rcases e : h.2.2 b with ⟨ci, fs⟩ | ⟨t, n, f⟩ | ⟨n, f⟩ | ⟨t, n, f⟩ <;> rfl
  · unfold aI; rw [pF_ne hb]
theorem aL_pF {h : zH} {a b k j : Nat} {v : Value} : aL (pF h a k v) b j = aL h b j := by
  by_cases hb : b = a
  · subst hb
    unfold aL pF
    simp only [va_up, if_true]
    rcases e : h.2.2 b with ⟨ci, fs⟩ | ⟨t, n, f⟩ | ⟨n, f⟩ | ⟨t, n, f⟩ <;> rfl
  · unfold aL; rw [pF_ne hb]
theorem aR_pF {h : zH} {a b k j : Nat} {v : Value} : aR (pF h a k v) b j = aR h b j := by
  by_cases hb : b = a
  · subst hb
    unfold aR pF
    simp only [va_up, if_true]
    rcases e : h.2.2 b with ⟨ci, fs⟩ | ⟨t, n, f⟩ | ⟨n, f⟩ | ⟨t, n, f⟩ <;> rfl
  · unfold aR; rw [pF_ne hb]
theorem iK_pF {h : zH} {a b k : Nat} {t : Nat} {v : Value} (ho : iK h b t) : iK (pF h a k v) b t := by
  obtain ⟨h1, n, f, h2⟩ := ho
  by_cases hb : b = a
  · subst hb; exact ⟨h1, n, f, by simp only [pF, va_up, if_true, h2]⟩
  · exact ⟨h1, n, f, by rw [pF_ne hb]; exact h2⟩
theorem lK_pF {h : zH} {a b k : Nat}  {v : Value} (ho : lK h b) : lK (pF h a k v) b := by
  obtain ⟨h1, n, f, h2⟩ := ho
  by_cases hb : b = a
  · subst hb; exact ⟨h1, n, f, by simp only [pF, va_up, if_true, h2]⟩
  · exact ⟨h1, n, f, by rw [pF_ne hb]; exact h2⟩
theorem rK_pF {h : zH} {a b k : Nat} {t : Nat} {v : Value} (ho : rK h b t) : rK (pF h a k v) b t := by
  obtain ⟨h1, n, f, h2⟩ := ho
  by_cases hb : b = a
  · subst hb; exact ⟨h1, n, f, by simp only [pF, va_up, if_true, h2]⟩
  · exact ⟨h1, n, f, by rw [pF_ne hb]; exact h2⟩
theorem zn_ne {h : zH} {e : zE} {b : Nat} (hb : b ≠ h.1) : (zn h e).2.2 b = h.2.2 b := by simp [zn, va_up, hb]
theorem zn_at {h : zH} {e : zE} : (zn h e).2.2 h.1 = e := by simp [zn, va_up]
theorem gF_zn {h : zH} {e : zE} {b k : Nat} (hb : b ≠ h.1) : gF (zn h e) b k = gF h b k := by
  unfold gF; rw [zn_ne hb]
theorem gI_zn {h : zH} {e : zE} {b k : Nat} (hb : b ≠ h.1) : gI (zn h e) b k = gI h b k := by
  unfold gI; rw [gF_zn hb]
theorem gL_zn {h : zH} {e : zE} {b k : Nat} (hb : b ≠ h.1) : gL (zn h e) b k = gL h b k := by
  unfold gL; rw [gF_zn hb]
theorem gR_zn {h : zH} {e : zE} {b k : Nat} (hb : b ≠ h.1) : gR (zn h e) b k = gR h b k := by
  unfold gR; rw [gF_zn hb]
theorem aN_zn {h : zH} {e : zE} {b : Nat} (hb : b ≠ h.1) : aN (zn h e) b = aN h b := by unfold aN; rw [zn_ne hb]
theorem aI_zn {h : zH} {e : zE} {b j : Nat} (hb : b ≠ h.1) : aI (zn h e) b j = aI h b j := by unfold aI; rw [zn_ne hb]
theorem aL_zn {h : zH} {e : zE} {b j : Nat} (hb : b ≠ h.1) : aL (zn h e) b j = aL h b j := by unfold aL; rw [zn_ne hb]
theorem aR_zn {h : zH} {e : zE} {b j : Nat} (hb : b ≠ h.1) : aR (zn h e) b j = aR h b j := by unfold aR; rw [zn_ne hb]
theorem oK_zn {h : zH} {e : zE} {b : Nat} {ci : Nat} (ho : oK h b ci) : oK (zn h e) b ci := by
  have hb : b ≠ h.1 := Nat.ne_of_lt ho.1
  exact ⟨Nat.lt_succ_of_lt ho.1, by rw [zn_ne hb]; exact ho.2⟩
theorem iK_zn {h : zH} {e : zE} {b : Nat} {t : Nat} (ho : iK h b t) : iK (zn h e) b t := by
  have hb : b ≠ h.1 := Nat.ne_of_lt ho.1
  exact ⟨Nat.lt_succ_of_lt ho.1, by rw [zn_ne hb]; exact ho.2⟩
theorem lK_zn {h : zH} {e : zE} {b : Nat}  (ho : lK h b) : lK (zn h e) b := by
  have hb : b ≠ h.1 := Nat.ne_of_lt ho.1
  exact ⟨Nat.lt_succ_of_lt ho.1, by rw [zn_ne hb]; exact ho.2⟩
theorem rK_zn {h : zH} {e : zE} {b : Nat} {t : Nat} (ho : rK h b t) : rK (zn h e) b t := by
  have hb : b ≠ h.1 := Nat.ne_of_lt ho.1
  exact ⟨Nat.lt_succ_of_lt ho.1, by rw [zn_ne hb]; exact ho.2⟩

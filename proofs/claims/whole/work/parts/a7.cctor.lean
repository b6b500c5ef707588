/-! ===== heaps cell by cell: the class's constructors ===== -/
section
set_option maxRecDepth 20000
variable {h h1 h' : zH} {Q : Option Value → zH → Prop} {l m : List zE} {n P a b c j k ci : Nat} {fs : List Value} {v : Value} {e : zE}
/-- behind n cells l come the cells m, and no more; P places -/
def hA (h : zH) (n : Nat) (l m : List zE) (P : Nat) : Prop := l.length = n ∧ h.1 = n + m.length ∧ h.2.1 = P + (m.map zsz).sum ∧ ∀ j e, (l ++ m)[j]? = some e → h.2.2 j = e
theorem hA_n (e1 : h1 = zn h e) (A : hA h n l m P) : hA h1 n l (m ++ [e]) P := by
  subst e1
  obtain ⟨q, a, b, c⟩ := A
  refine ⟨q, by show h.1 + 1 = _; rw [a]; simp; omega, by show h.2.1 + zsz e = _; rw [b, List.map_append, List.sum_append]; simp [Nat.add_assoc], fun j x hj => ?_⟩
  show va_up h.2.2 h.1 e j = x
  rw [← List.append_assoc] at hj
  have hl : (l ++ m).length = h.1 := by rw [List.length_append, a, q]
  by_cases y : j = h.1
  · subst y
    rw [List.getElem?_append_right (by omega), hl, Nat.sub_self] at hj
    simp only [va_up, if_true]
    simpa using hj
  · simp only [va_up, if_neg y]
    refine c j x ?_
    by_cases z : j < (l ++ m).length
    · rwa [List.getElem?_append_left z] at hj
    · rw [List.getElem?_eq_none (by rw [List.length_append]; simp only [List.length_cons, List.length_nil]; omega)] at hj; cases hj
theorem hA_u {z : zE} (A : hA h n l m P) (he : m[j]? = some e) (hs : zsz z = zsz e) (hz : h1 = (h.1, h.2.1, va_up h.2.2 (n + j) z)) : hA h1 n l (m.set j z) P := by
  subst hz
  obtain ⟨q, p, b, c⟩ := A
  have hj := (List.getElem?_eq_some_iff.mp he).1
  have em : (m.set j z).map zsz = m.map zsz := by
    apply List.ext_getElem?
    intro i
    rw [List.getElem?_map, List.getElem?_map]
    by_cases y : i = j
    · subst y; rw [List.getElem?_set_self hj, he]; simp [hs]
    · rw [List.getElem?_set_ne (Ne.symm y)]
  refine ⟨q, by rw [List.length_set]; exact p, by rw [em]; exact b, fun i x hi => ?_⟩
  show va_up h.2.2 (n + j) z i = x
  by_cases y : i = n + j
  · subst y
    rw [List.getElem?_append_right (by omega), show n + j - l.length = j by omega, List.getElem?_set_self hj] at hi
    simp only [va_up, if_true]
    exact Option.some.inj hi
  · simp only [va_up, if_neg y]
    refine c i x ?_
    by_cases w : i < l.length
    · rw [List.getElem?_append_left w] at hi ⊢; exact hi
    · rw [List.getElem?_append_right (by omega)] at hi ⊢
      rwa [List.getElem?_set_ne (by omega)] at hi
theorem hA_at (A : hA h n l m P) (ha : m[j]? = some e) : h.2.2 (n + j) = e ∧ j < m.length := by
  obtain ⟨q, p, b, c⟩ := A
  exact ⟨c (n + j) e (by rw [List.getElem?_append_right (by omega), show n + j - l.length = j by omega]; exact ha), (List.getElem?_eq_some_iff.mp ha).1⟩
theorem hA_p (e1 : h1 = pF h a k v) (A : hA h n l m P) (ea : a = n + j) (ha : m[j]? = some (zO ci fs)) : hA h1 n l (m.set j (zO ci (fs.set k v))) P := by
  obtain ⟨x, y⟩ := hA_at A ha
  subst ea
  exact hA_u A ha (by simp only [zsz, List.length_set]) (by rw [e1]; simp only [pF, x])
theorem hA_q (e1 : h1 = pF h a k (zr (some b))) (A : hA h n l m P) (ea : a = n + j) (ha : m[j]? = some (zO ci fs)) (eb : b = c) : hA h1 n l (m.set j (zO ci (fs.set k (.ref c)))) P := by
  subst eb
  exact hA_p e1 A ea ha
theorem hA_r {t i q : Nat} {f : Nat → Option Nat} {x : Option Nat} (e1 : h1 = pR h a i x) (A : hA h n l m P) (ea : a = n + j) (ha : m[j]? = some (zR t q f)) : hA h1 n l (m.set j (zR t q (va_up f i x))) P := by
  obtain ⟨x1, y⟩ := hA_at A ha
  subst ea
  exact hA_u A ha rfl (by rw [e1]; simp only [pR, x1])
theorem hA_l {i q : Nat} {f : Nat → Int64} {x : Int64} (e1 : h1 = pL h a i x) (A : hA h n l m P) (ea : a = n + j) (ha : m[j]? = some (zL q f)) : hA h1 n l (m.set j (zL q (vp_updL f i x))) P := by
  obtain ⟨x1, y⟩ := hA_at A ha
  subst ea
  exact hA_u A ha rfl (by rw [e1]; simp only [pL, x1])
theorem hA_o (A : hA h n l m P) (ea : a = n + j) (ha : m[j]? = some (zO ci fs)) (hz : zmt (zkd ci) fs = true) : oK h a ci := by
  obtain ⟨x, y⟩ := hA_at A ha
  subst ea
  exact ⟨by rw [A.2.1]; omega, fs, x, hz⟩
theorem hA_gr (A : hA h n l m P) (ea : a = n + j) (ha : m[j]? = some (zO ci fs)) (hk : fs.getD k .null = .ref b) : gR h a k = some b := by
  obtain ⟨x, y⟩ := hA_at A ha
  subst ea
  show vR (gF h (n + j) k) = some b
  have : gF h (n + j) k = fs.getD k .null := by simp only [gF, x]
  rw [this, hk]; rfl
theorem hA_in {x : zE} (A : hA h n l (m ++ [x]) P) (hc : n + m.length = c) : hA h c (l ++ m) [x] (P + (m.map zsz).sum) := by
  subst hc
  obtain ⟨q, p, b, c⟩ := A
  exact ⟨by rw [List.length_append, q], by rw [p, List.length_append, Nat.add_assoc], by rw [b, List.map_append, List.sum_append, Nat.add_assoc], fun i z hi => c i z (by rw [← List.append_assoc]; exact hi)⟩
theorem hA_out {R : List zE} (A : hA h c (l ++ m) R (P + (m.map zsz).sum)) (hc : n + m.length = c) (hq : l.length = n) : hA h n l (m ++ R) P := by
  subst hc
  obtain ⟨q, p, b, c⟩ := A
  exact ⟨hq, by rw [p, List.length_append, Nat.add_assoc], by rw [b, List.map_append, List.sum_append, Nat.add_assoc], fun i z hi => c i z (by rw [List.append_assoc]; exact hi)⟩
/-! what each makes -/
def R0 (n : Nat) : List zE := [zO 0 [.ref (n + 1), .int 0, .int 0, .int 0]]
def R2 (n : Nat) : List zE := [zO 2 [.ref (n + 1), .ref (n + 2), .ref (n + 3), .ref (n + 4), .int 0, .int 0, .int 0], zI 0 20 (fun _ => 0), zI 0 20 (fun _ => 0), zI 0 20 (fun _ => 0), zI 0 20 (fun _ => 0)]
def R1 (n : Nat) : List zE := [zO 1 [.ref (n + 1), .ref (n + 3), .ref (n + 4), .int 0, .int 0], zO 0 [.ref (n + 2), .int 0, .int 0, .int 0], zI 0 0 (fun _ => 0), zR 0 8 (fun _ => none)] ++ R2 (n + 4)
def R3 (n : Nat) : List zE := [zO 3 [.ref (n + 1), .int 0, .int 0, .int 0, .int 0], zI 0 8 (fun _ => 0)]
def R6 (n : Nat) : List zE := [zO 6 [.ref (n + 1), .int 0], zI 0 64 (fun _ => 0)]
def R5 (n : Nat) : List zE := [zO 5 [.ref (n + 1), .ref (n + 3), .ref (n + 4), .ref (n + 5), .ref (n + 6), .int 0, .int 0, .int 0, .int 0]] ++ R6 (n + 1) ++ [zI 0 256 (fun _ => 0), zI 0 1 (fun _ => 0), zI 0 1 (fun _ => 0), zI 0 1 (fun _ => 0)]
def R7 (n : Nat) : List zE := [zO 7 [.ref (n + 1), .ref (n + 2), .ref (n + 3), .int 0], zI 0 3 (fun _ => 0), zI 0 3 (fun _ => 0), zI 0 64 (fun _ => 0)]
def R10 (n : Nat) : List zE := [zO 10 [.ref (n + 1), .ref (n + 2), .ref (n + 3), .ref (n + 4), .ref (n + 5), .ref (n + 6), .int 0, .int 0, .int 0, .int 0], zL 3 (fun _ => 0), zL 4 (fun _ => 0), zL 8 (fun _ => 0), zI 0 8 (fun _ => 0), zI 0 8 (fun _ => 0), zR 0 8 (fun _ => none)]
/-- the words told so far -/
def wdR (ws : List Nat) : Nat → Int64 := fun i => lN (ws.getD i 0)
def R8 (n : Nat) (ws : List Nat) : List zE := [zO 8 [.ref (n + 1), .ref (n + 2), .ref (n + 3), .ref (n + 4), .ref (n + 5), .int 0, .int 0, .int 0, .int 0, .int 0, .long 0], zI 0 1600 (fun _ => 0), zL 20 (wdR ws), zI 0 1601 (fun _ => 0), zI 0 1601 (fun _ => 0), zL 1601 (fun _ => 0)]
theorem wdR_0 : wdR [] = fun _ => 0 := by funext i; rfl
theorem wdR_s (ws : List Nat) (x : Nat) : vp_updL (wdR ws) ws.length (lN x) = wdR (ws ++ [x]) := by
  funext i
  unfold wdR vp_updL
  by_cases y : i = ws.length
  · rw [if_pos y, y]; simp [List.getD_eq_getElem?_getD]
  · rw [if_neg y]
    by_cases z : i < ws.length
    · simp [List.getD_eq_getElem?_getD, List.getElem?_append_left z]
    · show lN (ws.getD i 0) = lN ((ws ++ [x]).getD i 0)
      rw [List.getD_eq_getElem?_getD, List.getD_eq_getElem?_getD, List.getElem?_eq_none (by omega), List.getElem?_eq_none (by simp; omega)]
theorem s2_init (A : hA h n l [zO 2 [.null, .null, .null, .null, .int 0, .int 0, .int 0]] P) (ea : a = n) (H : ∀ h', hA h' n l (R2 n) P → Q none h') : zC mX2_init [.ref a] h Q := by
  rw [ea]
  refine nX2_init _ _ _ (bX2_init_0 _ _ _ (fun h1 e1 => ?_))
  have A1 : hA h1 n l [zO 2 [.null, .null, .null, .null, .int 0, .int 0, .int 0], zI 0 20 (fun _ => 0)] P := (have z := hA_n e1 A; z)
  refine ⟨hA_o (j := 0) A1 rfl rfl rfl, fun h2 e2 => ?_⟩
  have A2 : hA h2 n l [zO 2 [.ref (n + 1), .null, .null, .null, .int 0, .int 0, .int 0], zI 0 20 (fun _ => 0)] P := (have z := hA_q (j := 0) (c := n + 1) e2 A1 rfl rfl A.2.1; z)
  intro h3 e3
  have A3 : hA h3 n l [zO 2 [.ref (n + 1), .null, .null, .null, .int 0, .int 0, .int 0], zI 0 20 (fun _ => 0), zI 0 20 (fun _ => 0)] P := (have z := hA_n e3 A2; z)
  intro h4 e4
  have A4 : hA h4 n l [zO 2 [.ref (n + 1), .ref (n + 2), .null, .null, .int 0, .int 0, .int 0], zI 0 20 (fun _ => 0), zI 0 20 (fun _ => 0)] P := (have z := hA_q (j := 0) (c := n + 2) e4 A3 rfl rfl A2.2.1; z)
  intro h5 e5
  have A5 : hA h5 n l [zO 2 [.ref (n + 1), .ref (n + 2), .null, .null, .int 0, .int 0, .int 0], zI 0 20 (fun _ => 0), zI 0 20 (fun _ => 0), zI 0 20 (fun _ => 0)] P := (have z := hA_n e5 A4; z)
  intro h6 e6
  have A6 : hA h6 n l [zO 2 [.ref (n + 1), .ref (n + 2), .ref (n + 3), .null, .int 0, .int 0, .int 0], zI 0 20 (fun _ => 0), zI 0 20 (fun _ => 0), zI 0 20 (fun _ => 0)] P := (have z := hA_q (j := 0) (c := n + 3) e6 A5 rfl rfl A4.2.1; z)
  intro h7 e7
  have A7 : hA h7 n l [zO 2 [.ref (n + 1), .ref (n + 2), .ref (n + 3), .null, .int 0, .int 0, .int 0], zI 0 20 (fun _ => 0), zI 0 20 (fun _ => 0), zI 0 20 (fun _ => 0), zI 0 20 (fun _ => 0)] P := (have z := hA_n e7 A6; z)
  intro h8 e8
  have A8 : hA h8 n l [zO 2 [.ref (n + 1), .ref (n + 2), .ref (n + 3), .ref (n + 4), .int 0, .int 0, .int 0], zI 0 20 (fun _ => 0), zI 0 20 (fun _ => 0), zI 0 20 (fun _ => 0), zI 0 20 (fun _ => 0)] P := (have z := hA_q (j := 0) (c := n + 4) e8 A7 rfl rfl A6.2.1; z)
  exact H _ A8
theorem s3_init (A : hA h n l [zO 3 [.null, .int 0, .int 0, .int 0, .int 0]] P) (ea : a = n) (H : ∀ h', hA h' n l (R3 n) P → Q none h') : zC mX3_init [.ref a] h Q := by
  rw [ea]
  refine nX3_init _ _ _ (bX3_init_0 _ _ _ (fun h1 e1 => ?_))
  have A1 : hA h1 n l [zO 3 [.null, .int 0, .int 0, .int 0, .int 0], zI 0 8 (fun _ => 0)] P := (have z := hA_n e1 A; z)
  refine ⟨hA_o (j := 0) A1 rfl rfl rfl, fun h2 e2 => ?_⟩
  have A2 : hA h2 n l [zO 3 [.ref (n + 1), .int 0, .int 0, .int 0, .int 0], zI 0 8 (fun _ => 0)] P := (have z := hA_q (j := 0) (c := n + 1) e2 A1 rfl rfl A.2.1; z)
  exact H _ A2
theorem s6_init (A : hA h n l [zO 6 [.null, .int 0]] P) (ea : a = n) (H : ∀ h', hA h' n l (R6 n) P → Q none h') : zC mX6_init [.ref a] h Q := by
  rw [ea]
  refine nX6_init _ _ _ (bX6_init_0 _ _ _ (fun h1 e1 => ?_))
  have A1 : hA h1 n l [zO 6 [.null, .int 0], zI 0 64 (fun _ => 0)] P := (have z := hA_n e1 A; z)
  refine ⟨hA_o (j := 0) A1 rfl rfl rfl, fun h2 e2 => ?_⟩
  have A2 : hA h2 n l [zO 6 [.ref (n + 1), .int 0], zI 0 64 (fun _ => 0)] P := (have z := hA_q (j := 0) (c := n + 1) e2 A1 rfl rfl A.2.1; z)
  exact H _ A2
theorem s7_init (A : hA h n l [zO 7 [.null, .null, .null, .int 0]] P) (ea : a = n) (H : ∀ h', hA h' n l (R7 n) P → Q none h') : zC mX7_init [.ref a] h Q := by
  rw [ea]
  refine nX7_init _ _ _ (bX7_init_0 _ _ _ (fun h1 e1 => ?_))
  have A1 : hA h1 n l [zO 7 [.null, .null, .null, .int 0], zI 0 3 (fun _ => 0)] P := (have z := hA_n e1 A; z)
  refine ⟨hA_o (j := 0) A1 rfl rfl rfl, fun h2 e2 => ?_⟩
  have A2 : hA h2 n l [zO 7 [.ref (n + 1), .null, .null, .int 0], zI 0 3 (fun _ => 0)] P := (have z := hA_q (j := 0) (c := n + 1) e2 A1 rfl rfl A.2.1; z)
  intro h3 e3
  have A3 : hA h3 n l [zO 7 [.ref (n + 1), .null, .null, .int 0], zI 0 3 (fun _ => 0), zI 0 3 (fun _ => 0)] P := (have z := hA_n e3 A2; z)
  intro h4 e4
  have A4 : hA h4 n l [zO 7 [.ref (n + 1), .ref (n + 2), .null, .int 0], zI 0 3 (fun _ => 0), zI 0 3 (fun _ => 0)] P := (have z := hA_q (j := 0) (c := n + 2) e4 A3 rfl rfl A2.2.1; z)
  intro h5 e5
  have A5 : hA h5 n l [zO 7 [.ref (n + 1), .ref (n + 2), .null, .int 0], zI 0 3 (fun _ => 0), zI 0 3 (fun _ => 0), zI 0 64 (fun _ => 0)] P := (have z := hA_n e5 A4; z)
  intro h6 e6
  have A6 : hA h6 n l [zO 7 [.ref (n + 1), .ref (n + 2), .ref (n + 3), .int 0], zI 0 3 (fun _ => 0), zI 0 3 (fun _ => 0), zI 0 64 (fun _ => 0)] P := (have z := hA_q (j := 0) (c := n + 3) e6 A5 rfl rfl A4.2.1; z)
  exact H _ A6
theorem s10_init (A : hA h n l [zO 10 [.null, .null, .null, .null, .null, .null, .int 0, .int 0, .int 0, .int 0]] P) (ea : a = n) (H : ∀ h', hA h' n l (R10 n) P → Q none h') : zC mX10_init [.ref a] h Q := by
  rw [ea]
  refine nX10_init _ _ _ (bX10_init_0 _ _ _ (fun h1 e1 => ?_))
  have A1 : hA h1 n l [zO 10 [.null, .null, .null, .null, .null, .null, .int 0, .int 0, .int 0, .int 0], zL 3 (fun _ => 0)] P := (have z := hA_n e1 A; z)
  refine ⟨hA_o (j := 0) A1 rfl rfl rfl, fun h2 e2 => ?_⟩
  have A2 : hA h2 n l [zO 10 [.ref (n + 1), .null, .null, .null, .null, .null, .int 0, .int 0, .int 0, .int 0], zL 3 (fun _ => 0)] P := (have z := hA_q (j := 0) (c := n + 1) e2 A1 rfl rfl A.2.1; z)
  intro h3 e3
  have A3 : hA h3 n l [zO 10 [.ref (n + 1), .null, .null, .null, .null, .null, .int 0, .int 0, .int 0, .int 0], zL 3 (fun _ => 0), zL 4 (fun _ => 0)] P := (have z := hA_n e3 A2; z)
  intro h4 e4
  have A4 : hA h4 n l [zO 10 [.ref (n + 1), .ref (n + 2), .null, .null, .null, .null, .int 0, .int 0, .int 0, .int 0], zL 3 (fun _ => 0), zL 4 (fun _ => 0)] P := (have z := hA_q (j := 0) (c := n + 2) e4 A3 rfl rfl A2.2.1; z)
  intro h5 e5
  have A5 : hA h5 n l [zO 10 [.ref (n + 1), .ref (n + 2), .null, .null, .null, .null, .int 0, .int 0, .int 0, .int 0], zL 3 (fun _ => 0), zL 4 (fun _ => 0), zL 8 (fun _ => 0)] P := (have z := hA_n e5 A4; z)
  intro h6 e6
  have A6 : hA h6 n l [zO 10 [.ref (n + 1), .ref (n + 2), .ref (n + 3), .null, .null, .null, .int 0, .int 0, .int 0, .int 0], zL 3 (fun _ => 0), zL 4 (fun _ => 0), zL 8 (fun _ => 0)] P := (have z := hA_q (j := 0) (c := n + 3) e6 A5 rfl rfl A4.2.1; z)
  intro h7 e7
  have A7 : hA h7 n l [zO 10 [.ref (n + 1), .ref (n + 2), .ref (n + 3), .null, .null, .null, .int 0, .int 0, .int 0, .int 0], zL 3 (fun _ => 0), zL 4 (fun _ => 0), zL 8 (fun _ => 0), zI 0 8 (fun _ => 0)] P := (have z := hA_n e7 A6; z)
  intro h8 e8
  have A8 : hA h8 n l [zO 10 [.ref (n + 1), .ref (n + 2), .ref (n + 3), .ref (n + 4), .null, .null, .int 0, .int 0, .int 0, .int 0], zL 3 (fun _ => 0), zL 4 (fun _ => 0), zL 8 (fun _ => 0), zI 0 8 (fun _ => 0)] P := (have z := hA_q (j := 0) (c := n + 4) e8 A7 rfl rfl A6.2.1; z)
  intro h9 e9
  have A9 : hA h9 n l [zO 10 [.ref (n + 1), .ref (n + 2), .ref (n + 3), .ref (n + 4), .null, .null, .int 0, .int 0, .int 0, .int 0], zL 3 (fun _ => 0), zL 4 (fun _ => 0), zL 8 (fun _ => 0), zI 0 8 (fun _ => 0), zI 0 8 (fun _ => 0)] P := (have z := hA_n e9 A8; z)
  intro h10 e10
  have A10 : hA h10 n l [zO 10 [.ref (n + 1), .ref (n + 2), .ref (n + 3), .ref (n + 4), .ref (n + 5), .null, .int 0, .int 0, .int 0, .int 0], zL 3 (fun _ => 0), zL 4 (fun _ => 0), zL 8 (fun _ => 0), zI 0 8 (fun _ => 0), zI 0 8 (fun _ => 0)] P := (have z := hA_q (j := 0) (c := n + 5) e10 A9 rfl rfl A8.2.1; z)
  intro h11 e11
  have A11 : hA h11 n l [zO 10 [.ref (n + 1), .ref (n + 2), .ref (n + 3), .ref (n + 4), .ref (n + 5), .null, .int 0, .int 0, .int 0, .int 0], zL 3 (fun _ => 0), zL 4 (fun _ => 0), zL 8 (fun _ => 0), zI 0 8 (fun _ => 0), zI 0 8 (fun _ => 0), zR 0 8 (fun _ => none)] P := (have z := hA_n e11 A10; z)
  intro h12 e12
  have A12 : hA h12 n l [zO 10 [.ref (n + 1), .ref (n + 2), .ref (n + 3), .ref (n + 4), .ref (n + 5), .ref (n + 6), .int 0, .int 0, .int 0, .int 0], zL 3 (fun _ => 0), zL 4 (fun _ => 0), zL 8 (fun _ => 0), zI 0 8 (fun _ => 0), zI 0 8 (fun _ => 0), zR 0 8 (fun _ => none)] P := (have z := hA_q (j := 0) (c := n + 6) e12 A11 rfl rfl A10.2.1; z)
  exact H _ A12
theorem s5_init (A : hA h n l [zO 5 [.null, .null, .null, .null, .null, .int 0, .int 0, .int 0, .int 0]] P) (ea : a = n) (H : ∀ h', hA h' n l (R5 n) P → Q none h') : zC mX5_init [.ref a] h Q := by
  rw [ea]
  refine nX5_init _ _ _ (bX5_init_0 _ _ _ (fun h1 e1 => ?_))
  have A1 : hA h1 n l [zO 5 [.null, .null, .null, .null, .null, .int 0, .int 0, .int 0, .int 0], zO 6 [.null, .int 0]] P := (have z := hA_n e1 A; z)
  refine s6_init (hA_in (m := [zO 5 [.null, .null, .null, .null, .null, .int 0, .int 0, .int 0, .int 0]]) A1 rfl) A.2.1 (fun h2 B2 => ⟨rfl, ?_⟩)
  have A2 : hA h2 n l [zO 5 [.null, .null, .null, .null, .null, .int 0, .int 0, .int 0, .int 0], zO 6 [.ref (n + 2), .int 0], zI 0 64 (fun _ => 0)] P := (have z := hA_out (m := [zO 5 [.null, .null, .null, .null, .null, .int 0, .int 0, .int 0, .int 0]]) B2 rfl A.1; z)
  refine ⟨hA_o (j := 0) A2 rfl rfl rfl, fun h4 e4 => ?_⟩
  have A3 : hA h4 n l [zO 5 [.ref (n + 1), .null, .null, .null, .null, .int 0, .int 0, .int 0, .int 0], zO 6 [.ref (n + 2), .int 0], zI 0 64 (fun _ => 0)] P := (have z := hA_q (j := 0) (c := n + 1) e4 A2 rfl rfl A.2.1; z)
  intro h5 e5 h6 e6
  have A4 : hA h5 n l [zO 5 [.ref (n + 1), .null, .null, .null, .null, .int 0, .int 0, .int 0, .int 0], zO 6 [.ref (n + 2), .int 0], zI 0 64 (fun _ => 0), zI 0 256 (fun _ => 0)] P := (have z := hA_n e5 A3; z)
  have A5 : hA h6 n l [zO 5 [.ref (n + 1), .ref (n + 3), .null, .null, .null, .int 0, .int 0, .int 0, .int 0], zO 6 [.ref (n + 2), .int 0], zI 0 64 (fun _ => 0), zI 0 256 (fun _ => 0)] P := (have z := hA_q (j := 0) (c := n + 3) e6 A4 rfl rfl A3.2.1; z)
  intro h7 e7 h8 e8
  have A6 : hA h7 n l [zO 5 [.ref (n + 1), .ref (n + 3), .null, .null, .null, .int 0, .int 0, .int 0, .int 0], zO 6 [.ref (n + 2), .int 0], zI 0 64 (fun _ => 0), zI 0 256 (fun _ => 0), zI 0 1 (fun _ => 0)] P := (have z := hA_n e7 A5; z)
  have A7 : hA h8 n l [zO 5 [.ref (n + 1), .ref (n + 3), .ref (n + 4), .null, .null, .int 0, .int 0, .int 0, .int 0], zO 6 [.ref (n + 2), .int 0], zI 0 64 (fun _ => 0), zI 0 256 (fun _ => 0), zI 0 1 (fun _ => 0)] P := (have z := hA_q (j := 0) (c := n + 4) e8 A6 rfl rfl A5.2.1; z)
  intro h9 e9 h10 e10
  have A8 : hA h9 n l [zO 5 [.ref (n + 1), .ref (n + 3), .ref (n + 4), .null, .null, .int 0, .int 0, .int 0, .int 0], zO 6 [.ref (n + 2), .int 0], zI 0 64 (fun _ => 0), zI 0 256 (fun _ => 0), zI 0 1 (fun _ => 0), zI 0 1 (fun _ => 0)] P := (have z := hA_n e9 A7; z)
  have A9 : hA h10 n l [zO 5 [.ref (n + 1), .ref (n + 3), .ref (n + 4), .ref (n + 5), .null, .int 0, .int 0, .int 0, .int 0], zO 6 [.ref (n + 2), .int 0], zI 0 64 (fun _ => 0), zI 0 256 (fun _ => 0), zI 0 1 (fun _ => 0), zI 0 1 (fun _ => 0)] P := (have z := hA_q (j := 0) (c := n + 5) e10 A8 rfl rfl A7.2.1; z)
  intro h11 e11 h12 e12
  have A10 : hA h11 n l [zO 5 [.ref (n + 1), .ref (n + 3), .ref (n + 4), .ref (n + 5), .null, .int 0, .int 0, .int 0, .int 0], zO 6 [.ref (n + 2), .int 0], zI 0 64 (fun _ => 0), zI 0 256 (fun _ => 0), zI 0 1 (fun _ => 0), zI 0 1 (fun _ => 0), zI 0 1 (fun _ => 0)] P := (have z := hA_n e11 A9; z)
  have A11 : hA h12 n l [zO 5 [.ref (n + 1), .ref (n + 3), .ref (n + 4), .ref (n + 5), .ref (n + 6), .int 0, .int 0, .int 0, .int 0], zO 6 [.ref (n + 2), .int 0], zI 0 64 (fun _ => 0), zI 0 256 (fun _ => 0), zI 0 1 (fun _ => 0), zI 0 1 (fun _ => 0), zI 0 1 (fun _ => 0)] P := (have z := hA_q (j := 0) (c := n + 6) e12 A10 rfl rfl A9.2.1; z)
  exact H _ A11
theorem s1_init (A : hA h n l [zO 1 [.null, .null, .null, .int 0, .int 0]] P) (ea : a = n) (H : ∀ h', hA h' n l (R1 n) P → Q none h') : zC mX1_init [.ref a] h Q := by
  rw [ea]
  refine nX1_init _ _ _ (bX1_init_0 _ _ _ (fun h1 e1 h3 e3 => ?_))
  have A1 : hA h1 n l [zO 1 [.null, .null, .null, .int 0, .int 0], zO 0 [.null, .int 0, .int 0, .int 0]] P := (have z := hA_n e1 A; z)
  have A2 : hA h3 n l [zO 1 [.null, .null, .null, .int 0, .int 0], zO 0 [.null, .int 0, .int 0, .int 0], zI 0 0 (fun _ => 0)] P := (have z := hA_n e3 A1; z)
  refine nX0_init _ _ _ _ _ _ _ (bX0_init_0 _ _ _ _ _ _ _ ⟨hA_o (j := 1) A2 A.2.1 rfl rfl, fun h4 e4 h5 e5 h6 e6 h7 e7 => ⟨rfl, ?_⟩⟩)
  have A3 : hA h4 n l [zO 1 [.null, .null, .null, .int 0, .int 0], zO 0 [.ref (n + 2), .int 0, .int 0, .int 0], zI 0 0 (fun _ => 0)] P := (have z := hA_q (j := 1) (c := n + 2) e4 A2 A.2.1 rfl A1.2.1; z)
  have A4 : hA h5 n l [zO 1 [.null, .null, .null, .int 0, .int 0], zO 0 [.ref (n + 2), .int 0, .int 0, .int 0], zI 0 0 (fun _ => 0)] P := (have z := hA_p (j := 1) e5 A3 A.2.1 rfl; z)
  have A5 : hA h6 n l [zO 1 [.null, .null, .null, .int 0, .int 0], zO 0 [.ref (n + 2), .int 0, .int 0, .int 0], zI 0 0 (fun _ => 0)] P := (have z := hA_p (j := 1) e6 A4 A.2.1 rfl; z)
  have A6 : hA h7 n l [zO 1 [.null, .null, .null, .int 0, .int 0], zO 0 [.ref (n + 2), .int 0, .int 0, .int 0], zI 0 0 (fun _ => 0)] P := (have z := hA_p (j := 1) e7 A5 A.2.1 rfl; z)
  refine ⟨hA_o (j := 0) A6 rfl rfl rfl, fun h8 e8 h10 e10 h13 e13 h16 e16 => ?_⟩
  have A7 : hA h8 n l [zO 1 [.ref (n + 1), .null, .null, .int 0, .int 0], zO 0 [.ref (n + 2), .int 0, .int 0, .int 0], zI 0 0 (fun _ => 0)] P := (have z := hA_q (j := 0) (c := n + 1) e8 A6 rfl rfl A.2.1; z)
  have A8 : hA h10 n l [zO 1 [.ref (n + 1), .null, .null, .int 0, .int 0], zO 0 [.ref (n + 2), .int 0, .int 0, .int 0], zI 0 0 (fun _ => 0), zR 0 8 (fun _ => none)] P := (have z := hA_n e10 A7; z)
  have A9 : hA h13 n l [zO 1 [.ref (n + 1), .ref (n + 3), .null, .int 0, .int 0], zO 0 [.ref (n + 2), .int 0, .int 0, .int 0], zI 0 0 (fun _ => 0), zR 0 8 (fun _ => none)] P := (have z := hA_q (j := 0) (c := n + 3) e13 A8 rfl rfl A7.2.1; z)
  have A10 : hA h16 n l [zO 1 [.ref (n + 1), .ref (n + 3), .null, .int 0, .int 0], zO 0 [.ref (n + 2), .int 0, .int 0, .int 0], zI 0 0 (fun _ => 0), zR 0 8 (fun _ => none), zO 2 [.null, .null, .null, .null, .int 0, .int 0, .int 0]] P := (have z := hA_n e16 A9; z)
  refine s2_init (hA_in (m := [zO 1 [.ref (n + 1), .ref (n + 3), .null, .int 0, .int 0], zO 0 [.ref (n + 2), .int 0, .int 0, .int 0], zI 0 0 (fun _ => 0), zR 0 8 (fun _ => none)]) A10 rfl) A9.2.1 (fun h2 B2 => ⟨rfl, ?_⟩)
  have A11 : hA h2 n l [zO 1 [.ref (n + 1), .ref (n + 3), .null, .int 0, .int 0], zO 0 [.ref (n + 2), .int 0, .int 0, .int 0], zI 0 0 (fun _ => 0), zR 0 8 (fun _ => none), zO 2 [.ref (n + 5), .ref (n + 6), .ref (n + 7), .ref (n + 8), .int 0, .int 0, .int 0], zI 0 20 (fun _ => 0), zI 0 20 (fun _ => 0), zI 0 20 (fun _ => 0), zI 0 20 (fun _ => 0)] P := (have z := hA_out (m := [zO 1 [.ref (n + 1), .ref (n + 3), .null, .int 0, .int 0], zO 0 [.ref (n + 2), .int 0, .int 0, .int 0], zI 0 0 (fun _ => 0), zR 0 8 (fun _ => none)]) B2 rfl A.1; z)
  refine ⟨hA_o (j := 0) A11 rfl rfl rfl, fun h22 e22 => ?_⟩
  have A12 : hA h22 n l [zO 1 [.ref (n + 1), .ref (n + 3), .ref (n + 4), .int 0, .int 0], zO 0 [.ref (n + 2), .int 0, .int 0, .int 0], zI 0 0 (fun _ => 0), zR 0 8 (fun _ => none), zO 2 [.ref (n + 5), .ref (n + 6), .ref (n + 7), .ref (n + 8), .int 0, .int 0, .int 0], zI 0 20 (fun _ => 0), zI 0 20 (fun _ => 0), zI 0 20 (fun _ => 0), zI 0 20 (fun _ => 0)] P := (have z := hA_q (j := 0) (c := n + 4) e22 A11 rfl rfl A9.2.1; z)
  exact H _ A12
end

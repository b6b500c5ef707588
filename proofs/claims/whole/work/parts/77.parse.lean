/-! ===== a wording read, pure ===== -/
section
/-- how tightly a sign binds -/
def bnd (k : Nat) : Nat := [0, 0, 0, 0, 1, 2, 3, 4, 4, 4, 5, 5].getD k 0
theorem zbind_n : ∀ k, k < 12 → zbind k = nI (bnd k) := by decide +kernel
abbrev zOp : Type := Nat × Nat × Nat
abbrev zFt : Type := Nat × Nat
/-- (what is wanted, signs and brackets, open questions, steps, (token, units)) -/
abbrev zPs : Type := Nat × List Nat × List (Nat × Bool) × (Nat × (Nat → zOp)) × (Nat × Nat)
def pE (c : Nat → zOp) (m : Nat) (o : zOp) : Nat → zOp := fun j => if j = m then o else c j
/-- the signs that bind at least so are put behind the steps -/
def stl (b : Nat) : List Nat → Nat → (Nat → zOp) → List Nat × Nat × (Nat → zOp)
  | [], m, c => ([], m, c)
  | e :: E, m, c => if b ≤ bnd e then stl b E (m + 1) (pE c m (e, 0, 0)) else (e :: E, m, c)
/-- how deep -/
def ard : List Nat → Nat
  | [] => 0
  | e :: E => (if e = 3 ∨ e = 6 then 1 else 0) + ard E
def wth (s : zPs) : Nat := ard s.2.1 + (if s.1 = 1 ∨ s.1 = 2 then 1 else 0) + s.2.2.1.length
section
variable (n : Nat) (bs : Nat → Nat) (K : zKs) (own lim : Nat)
def mp (i : Nat) : zFt := mpk 2 (tk n bs i)
/-- a mark -/
def sMk (I : List (Nat × Bool)) (m : Nat) (c : Nat → zOp) (i u : Nat) : zFt ⊕ zPs :=
  let κ := (tk n bs i).1
  let nx := fun (o : zOp) (i' : Nat) => (.inr (3, [], I, (m + 1, pE c m o), (i', u + 1)) : zFt ⊕ zPs)
  if κ = 20 then (if u = lim then .inl (mp n bs i) else match tkN (tk n bs i) K.1.2 K.1.1 (fun _ => false) with
    | .inl e => .inl e
    | .inr v => nx (12, 0, v + 1) (i + 1))
  else if κ = 9 then (if u = lim then .inl (mp n bs i) else nx (12, 0, 0) (i + 1))
  else if κ = 10 then (if u = lim then .inl (mp n bs i) else match tkN (tk n bs (i + 1)) K.2.2.2 K.2.2.1 (fun v => v == own) with
    | .inl e => .inl e
    | .inr v => nx (13, 0, v) (i + 2))
  else if κ = 11 ∨ κ = 13 then (if u = lim then .inl (mp n bs i) else match srB n bs K (i + 1) with
    | .inl e => .inl e
    | .inr p => nx (if κ = 11 then 14 else 15, p.2, 0) p.1)
  else .inl (mp n bs i)
/-- else -/
def sEl : List (Nat × Bool) → Nat → (Nat → zOp) → Nat → Nat → zFt ⊕ zPs
  | [], m, c, i, u => .inr (4, [], [], (m, c), (i, u))
  | (_, false) :: I, m, c, i, u => sEl I m c i u
  | (j, true) :: I, m, c, i, u => if (tk n bs i).1 = 8 then .inr (0, [], (j, false) :: I, (m, pE c j (3, 0, m)), (i + 1, u)) else .inl (mp n bs i)
/-- a unit -/
def sUn (E : List Nat) (I : List (Nat × Bool)) (m : Nat) (c : Nat → zOp) (i u : Nat) : zFt ⊕ zPs :=
  let κ := (tk n bs i).1
  let nx := fun (o : zOp) (i' : Nat) => (.inr (2, E, I, (m + 1, pE c m o), (i', u + 1)) : zFt ⊕ zPs)
  if κ = 16 then (if 4 ≤ bnd (E.headD 0) ∨ wth (1, E, I, (m, c), (i, u)) = 7 then .inl (mp n bs i) else .inr (1, 6 :: E, I, (m, c), (i + 1, u)))
  else if κ = 23 then (if u = lim ∨ wth (1, E, I, (m, c), (i, u)) = 7 then .inl (mp n bs i) else .inr (1, 3 :: E, I, (m, c), (i + 1, u + 1)))
  else if κ = 21 then (if u = lim then .inl (mp n bs i) else nx (0, 0, (tk n bs i).2.2.1) (i + 1))
  else if κ = 17 then (if u = lim then .inl (mp n bs i) else match tkN (tk n bs (i + 1)) K.1.2 K.1.1 (fun _ => false) with
    | .inl e => .inl e
    | .inr v => match srB n bs K (i + 2) with
      | .inl e => .inl e
      | .inr p => nx (1, p.2, v + 1) p.1)
  else if κ = 18 then (if u = lim then .inl (mp n bs i) else match srB n bs K (i + 1) with
    | .inl e => .inl e
    | .inr p => nx (1, p.2, 0) p.1)
  else if κ = 19 then (if u = lim then .inl (mp n bs i) else match tkN (tk n bs (i + 1)) K.2.2.2 K.2.2.1 (fun v => v == own) with
    | .inl e => .inl e
    | .inr v => match tkN (tk n bs (i + 2)) K.1.2 K.1.1 (fun _ => false) with
      | .inl e => .inl e
      | .inr w => nx (2, w + 1, v) (i + 3))
  else .inl (mp n bs i)
/-- the sign's work: (sign, how it binds) -/
def sgD (κ : Nat) : Option (Nat × Nat) :=
  if κ = 28 then some (10, 5) else if κ = 29 then some (11, 5) else if κ = 25 then some (7, 4) else if κ = 26 then some (8, 4) else if κ = 27 then some (9, 4) else if κ = 15 then some (5, 2) else if κ = 14 then some (4, 1) else none
def sSg (E : List Nat) (I : List (Nat × Bool)) (m : Nat) (c : Nat → zOp) (i u : Nat) : zFt ⊕ zPs :=
  let κ := (tk n bs i).1
  match sgD κ with
  | some (s, b) =>
    let r := stl (if b = 4 then 5 else b) E m c
    if b = 4 ∧ bnd (r.1.headD 0) = 4 then .inl (mp n bs i) else .inr (1, s :: r.1, I, (r.2.1, r.2.2), (i + 1, u))
  | none =>
    let r := stl 1 E m c
    if κ = 24 then (match r.1 with
      | 3 :: E' => .inr (2, E', I, (r.2.1, r.2.2), (i + 1, u))
      | _ => .inl (mp n bs i))
    else if κ = 7 then (match r.1 with
      | [] => .inr (0, [], (r.2.1, true) :: I, (r.2.1 + 1, pE r.2.2 r.2.1 (3, 0, 0)), (i + 1, u))
      | _ => .inl (mp n bs i))
    else .inl (mp n bs i)
/-- one turn -/
def stp (s : zPs) : zFt ⊕ zPs :=
  let (ph, E, I, (m, c), (i, u)) := s
  if ph = 0 then (if (tk n bs i).1 = 6 then (if I.length = 7 then .inl (mp n bs i) else .inr (1, [], I, (m, c), (i + 1, u))) else sMk n bs K own lim I m c i u)
  else if ph = 1 then sUn n bs K own lim E I m c i u
  else if ph = 2 then sSg n bs E I m c i u
  else sEl n bs I m c i u
def prs : Nat → zPs → zFt ⊕ zPs
  | 0, s => .inr s
  | d + 1, s => if s.1 = 4 then .inr s else match stp n bs K own lim s with
    | .inl e => .inl e
    | .inr s' => prs d s'
end
end

/-! ===== the reference: sway, more ===== -/
section
variable {h h' : zH} {b N ns V xv : Nat} {st wt mm : Nat → Nat} {Q : Option Value → zH → Prop} {X : List Nat} {Y : List (Nat × Nat)} {f : (Nat → Nat) → Nat → Nat} {cn : Nat → Nat} {cd : Nat → Nat → Nat × Nat × Nat}
/-- digits of what is told -/
def wrD (k : Nat) : Nat → Nat → Nat
  | 0, v => v
  | i + 1, v => wrD k i (10 * v + k / 4 ^ i % 4)
theorem s12_written {k n : Nat} (hk : k < 64) (hn : n ≤ 3) (H : Q (some (.int (nI (wrD k n 0)))) h) : zC mX12_written [.int (nI k), .int (nI n)] h Q := by
  have L : ∀ (i v : Nat), i ≤ 3 → Q (some (.int (nI (wrD k i v)))) h → zX mX12_written 6 [.int (nI k), .float 0, .int (nI v), .int (nI i + (-1))] [] h Q := by
    intro i
    induction i with
    | zero => intro v _ HH; exact bX12_written_6 _ _ _ _ _ (br_t nI_d0 HH)
    | succ i ih =>
      intro v hi HH
      rw [nI_dn]
      refine bX12_written_6 _ _ _ _ _ (br_f (nI_pos (by omega)) ?_)
      rw [nI_lit 2, nI_mul, nI_shr (by omega) (by omega), nI_mod4, nI_lit 10, nI_mul, nI_add, ← p42]
      exact ih _ (by omega) HH
  refine nX12_written _ _ _ _ (bX12_written_0 _ _ _ _ ?_)
  rw [nI_s1]
  exact L n 0 hn H
/-- the search: sets of so many, from s on -/
def swI (p : Nat → Option Nat) (many : Nat) : Nat → Nat → Option (Nat × Nat)
  | 0, _ => none
  | d + 1, s => if Nat.beq (pcF s) many = true then (match p s with
    | some k => some (s, k)
    | none => swI p many d (s + 1)) else swI p many d (s + 1)
def swO (p : Nat → Option Nat) (V : Nat) : Nat → Nat → Option (Nat × Nat × Nat)
  | 0, _ => none
  | d + 1, many => match swI p many (2 ^ V) 0 with
    | some q => some (many, q)
    | none => swO p V d (many + 1)
/-- what a set is told at least -/
def swP (N V : Nat) (f : (Nat → Nat) → Nat → Nat) (st wt : Nat → Nat) (name s : Nat) : Option Nat := fsN (swB N V f st wt name s) 64 0
def swF (N V : Nat) (f : (Nat → Nat) → Nat → Nat) (st wt : Nat → Nat) (name : Nat) : Option (Nat × Nat × Nat) := swO (swP N V f st wt name) V 4 0
def swA (q : Option (Nat × Nat × Nat)) (w : Int32) : Int32 := match q with
  | none => -1
  | some q => if w = 0 then nI q.1 else if w = 1 then nI q.2.1 else nI (wrD q.2.2 q.1 0)
theorem beq_of {a c : Nat} (e : a = c) : Nat.beq a c = true := by subst e; exact Nat.beq_refl a
theorem beq_no {a c : Nat} (e : ¬ a = c) : ¬ Nat.beq a c = true := fun z => e (Nat.eq_of_beq_eq_true z)
theorem s12_sway (M : mT h b N ns V st wt) (S : mS h N V f) {x y : Int32} (H1 : ∀ j h', x = nI j → j < N → (y = 0 ∨ y = 1 ∨ y = 2) → fr [106, 114, 115] [] h h' → Q (some (.int (swA (swF N V f st wt j) y))) h') (H0 : ((x < 0 ∨ nI N ≤ x) ∨ ¬ (y = 0 ∨ y = 1 ∨ y = 2)) → Q (some (.int (-1))) h) : zC mX12_sway [.ref 84, .int x, .int y] h Q := by
  have hV := M.V8
  have hN := M.N3
  have p20 : 0 < 2 ^ V := Nat.two_pow_pos V
  have p2 : 2 ^ V ≤ 256 := Nat.le_trans (Nat.pow_le_pow_right (by decide) hV) (by decide)
  refine nX12_sway _ _ _ _ _ (bX12_sway_0 _ _ _ _ _ ⟨M.l.o, s12_isName M (fun q => ⟨_, rfl, br_t rfl (H0 (Or.inl q))⟩) (fun j hj e => ⟨_, rfl, br_f (by decide +kernel) (s12_isIn (fun q => ⟨_, rfl, br_t rfl (H0 (Or.inr (fun z => ?_)))⟩) (fun q1 q2 => ⟨_, rfl, br_f (by decide +kernel) ?_⟩))⟩)⟩)
  · rcases z with z | z | z <;> rw [z] at q <;> exact absurd q (by decide)
  have hy : y = 0 ∨ y = 1 ∨ y = 2 := by
    obtain ⟨m, m1, rfl⟩ := nI_of q1
    rw [nI_lit 2, nI_ltI (by decide) m1] at q2
    have : m = 0 ∨ m = 1 ∨ m = 2 := by omega
    rcases this with rfl | rfl | rfl
    · exact Or.inl rfl
    · exact Or.inr (Or.inl rfl)
    · exact Or.inr (Or.inr rfl)
  subst e
  generalize hp : swP N V f st wt j = p
  have inner : ∀ (many : Nat), many ≤ 3 → (∀ h0, fr [106, 114, 115] [] h h0 → swI p many (2 ^ V) 0 = none → zX mX12_sway 21 [.ref 84, .int (nI j), .int y, .int (nI (many + 1)), .float 0, .float 0] [] h0 Q) → (∀ q h0, fr [106, 114, 115] [] h h0 → swI p many (2 ^ V) 0 = some q → Q (some (.int (swA (some (many, q)) y))) h0) →
      ∀ (d s : Nat) (h0 : zH), s + d = 2 ^ V → fr [106, 114, 115] [] h h0 → swI p many d s = swI p many (2 ^ V) 0 → zX mX12_sway 29 [.ref 84, .int (nI j), .int y, .int (nI many), .int (nI s), .float 0] [] h0 Q := by
    intro many hm go fin d
    induction d with
    | zero =>
      intro s h0 hs F e
      have : s = 2 ^ V := by omega
      subst this
      have M0 := M.fr F (by decide)
      refine bX12_sway_29 _ _ _ _ _ _ _ ⟨M0.l.o, s12_everybody M0 ⟨_, rfl, br_t (nI_lt (by omega) (by omega)) ?_⟩⟩
      rw [nI_1]
      exact go h0 F e.symm
    | succ d ih =>
      intro s h0 hs F e
      have M0 := M.fr F (by decide)
      have S0 := S.fr F (by decide) (by simp)
      have pl := pcF_31 s
      rw [swI] at e
      refine bX12_sway_29 _ _ _ _ _ _ _ ⟨M0.l.o, s12_everybody M0 ⟨_, rfl, br_f (nI_nlt (by omega) (by omega)) (s12_bitsOf (by omega) ⟨_, rfl, ?_⟩)⟩⟩
      rw [nI_eq (by omega) (by omega), nI_1]
      refine ⟨fun q => ?_, fun q => ?_⟩
      · rw [if_pos (beq_of q)] at e
        refine ⟨M0.l.o, s12_byMarks M0 S0 hj (by omega) (by omega) (fun h1 F1 => ⟨_, rfl, ?_⟩)⟩
        have FF := F.tr F1
        have ep : fsN (swB N V f st wt j s) 64 0 = p s := by rw [← hp]; rfl
        rw [ep]
        cases hps : p s with
        | none =>
          rw [hps] at e
          exact br_t (by decide +kernel) (ih (s + 1) h1 (by omega) FF e)
        | some k =>
          rw [hps] at e
          have k64 : k < 64 := by rw [← ep] at hps; exact (fsN_lt hps).2.1
          have HH := fin (s, k) h1 FF e.symm
          unfold swA at HH
          refine br_f (nI_pos (n := k) (by omega)) ⟨fun z => ?_, fun z => ⟨fun z2 => ?_, fun z2 => ?_⟩⟩
          · simp only [z, if_true] at HH; exact HH
          · simp only [z, z2, if_true, if_false] at HH; exact HH
          · simp only [z, z2, if_false] at HH
            exact s12_written k64 hm ⟨_, rfl, HH⟩
      · rw [if_neg (beq_no q)] at e
        exact ih (s + 1) h0 (by omega) F e
  have outer : ∀ (d many : Nat) (h0 : zH), many + d = 4 → fr [106, 114, 115] [] h h0 → swO p V d many = swF N V f st wt j → zX mX12_sway 21 [.ref 84, .int (nI j), .int y, .int (nI many), .float 0, .float 0] [] h0 Q := by
    intro d
    induction d with
    | zero =>
      intro many h0 hm F e
      have : many = 4 := by omega
      subst this
      have HH := H1 j h0 rfl hj hy F
      rw [← e] at HH
      exact bX12_sway_21 _ _ _ _ _ _ (br_t (by decide +kernel) HH)
    | succ d ih =>
      intro many h0 hm F e
      rw [swO] at e
      refine bX12_sway_21 _ _ _ _ _ _ (br_f (nI_nlt (b := many) (a := 3) (by omega) (by decide)) ?_)
      refine inner many (by omega) (fun h1 F1 e1 => ?_) (fun q h1 F1 e1 => ?_) (2 ^ V) 0 h0 (by omega) F rfl
      · rw [e1] at e
        exact ih (many + 1) h1 (by omega) F1 e
      · rw [e1] at e
        have HH := H1 j h1 rfl hj hy F1
        rw [← e] at HH
        exact HH
  exact outer 4 0 h rfl fr.rf (by rw [← hp]; rfl)
/-! one voter more -/
/-- all say their own in a row, with one voter more -/
def mrB (N V : Nat) (st wt : Nat → Nat) (cn : Nat → Nat) (cd : Nat → Nat → Nat × Nat × Nat) (its mark r : Nat) : Bool := (List.range V).all (fun v => decide (sayF (V + 1) N (ud st V its) (ud wt V 1) (ud (dg (N + 1) V r) V mark) v (cn v) (cd v) = dg (N + 1) V r v))
theorem sayF_wt {V N : Nat} {st wt st' wt' mk mk' : Nat → Nat} {own n : Nat} {c : Nat → Nat × Nat × Nat} (h1 : ∀ v, v < V → st v = st' v) (h2 : ∀ v, v < V → wt v = wt' v) (h3 : ∀ v, v < V → mk v = mk' v) (hok : ∀ i, i < n → ((c i).1 = 2 ∨ (c i).1 = 13) → (c i).2.2 < V) : sayF V N st wt mk own n c = sayF V N st' wt' mk' own n c := by
  have ev : ∀ s m, vts V st wt mk own s m = vts V st' wt' mk' own s m := fun s m => sm_congr V 0 (fun v _ hv => by
    unfold vf
    rw [h1 v (by omega), h2 v (by omega), h3 v (by omega)])
  have ev' : ∀ s, vts V st wt mk own s = vts V st' wt' mk' own s := fun s => funext (ev s)
  have aux : ∀ (k i ow : Nat) (l : List Int32), i + k = n → ex V N st wt mk own c k i ow l = ex V N st' wt' mk' own c k i ow l := by
    intro k
    induction k with
    | zero => intros; rfl
    | succ k ih =>
      intro i ow l hi
      have e1 : st1 V N st wt mk own (c i) ow l = st1 V N st' wt' mk' own (c i) ow l := by
        have hk := hok i (by omega)
        unfold st1
        simp only [ev, ev']
        by_cases z2 : (c i).1 = 2
        · rw [h3 _ (hk (Or.inl z2))]
        · by_cases z3 : (c i).1 = 13
          · rw [h3 _ (hk (Or.inr z3))]
          · simp [z2, z3]
      rw [ex, ex, e1, ih (i + 1) ow l (by omega)]
      split
      · rfl
      · split
        · rfl
        · exact ih (i + 1) _ _ (by omega)
  exact aux n 0 0 [] (by omega)
end

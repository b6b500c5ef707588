/-! ===== the class's reader: a sign ===== -/
section
variable {h h' : zH} {Q : Option Value → zH → Prop} {n tc i m u own lim V N ot : Nat} {bs : Nat → Nat} {c : Nat → zOp} {E : List Nat} {I : List (Nat × Bool)}
theorem ak_any {m : Nat} {f g : Nat → Bool} (e : ∀ j, j < m → f j = g j) : (List.range m).any f = (List.range m).any g := by
  rw [Bool.eq_iff_iff, List.any_eq_true, List.any_eq_true]
  constructor
  · rintro ⟨x, hx, w⟩; exact ⟨x, hx, by rw [← e x (List.mem_range.mp hx)]; exact w⟩
  · rintro ⟨x, hx, w⟩; exact ⟨x, hx, by rw [e x (List.mem_range.mp hx)]; exact w⟩
theorem pE_n {j : Nat} {o : zOp} (hj : j ≠ m) : pE c m o j = c j := by unfold pE; rw [if_neg hj]
theorem pE_s {o : zOp} : pE c m o m = o := by unfold pE; rw [if_pos rfl]
theorem akV_e {o : zOp} {v : Nat} : akV (m + 1) (pE c m o) v = (akV m c v || ((o.1 == 2 || o.1 == 13) && o.2.2 == v)) := by
  unfold akV
  rw [List.range_succ, List.any_append]
  congr 1
  · exact ak_any (fun j hj => by rw [pE_n (by omega)])
  · rw [List.any_cons, List.any_nil, Bool.or_false, pE_s]
theorem akS_e {o : zOp} {v : Nat} : akS (m + 1) (pE c m o) v = (akS m c v || ((o.1 == 1 || o.1 == 14 || o.1 == 15) && o.2.1 == v)) := by
  unfold akS
  rw [List.range_succ, List.any_append]
  congr 1
  · exact ak_any (fun j hj => by rw [pE_n (by omega)])
  · rw [List.any_cons, List.any_nil, Bool.or_false, pE_s]
theorem akV_p {j t v : Nat} (hc : c j = (3, 0, 0)) : akV m (pE c j (3, 0, t)) v = akV m c v := by
  unfold akV
  refine ak_any (fun k hk => ?_)
  by_cases z : k = j
  · rw [z, pE_s, hc] <;> rfl
  · rw [pE_n z]
theorem akS_p {j t v : Nat} (hc : c j = (3, 0, 0)) : akS m (pE c j (3, 0, t)) v = akS m c v := by
  unfold akS
  refine ak_any (fun k hk => ?_)
  by_cases z : k = j
  · rw [z, pE_s, hc] <;> rfl
  · rw [pE_n z]
theorem stl_ak {b : Nat} (hb : 1 ≤ b) {v : Nat} : ∀ (E : List Nat) (m : Nat) (c : Nat → zOp), wfE E → akV (stl b E m c).2.1 (stl b E m c).2.2 v = akV m c v ∧ akS (stl b E m c).2.1 (stl b E m c).2.2 v = akS m c v
  | [], m, c, _ => ⟨rfl, rfl⟩
  | e :: E, m, c, h => by
    rw [stl]
    split
    · rename_i w
      have e4 := bnd_pos e h.1 (by omega)
      have r := stl_ak hb (v := v) E (m + 1) (pE c m (e, 0, 0)) h.2.1
      rw [akV_e, akS_e] at r
      have a1 : ((e == 2 || e == 13) && (0 : Nat) == v) = false := by
        have : (e == 2 || e == 13) = false := by
          rw [Bool.or_eq_false_iff]; have := h.1; exact ⟨by simp; omega, by simp; omega⟩
        rw [this]; rfl
      have a2 : ((e == 1 || e == 14 || e == 15) && (0 : Nat) == v) = false := by
        have : (e == 1 || e == 14 || e == 15) = false := by
          rw [Bool.or_eq_false_iff, Bool.or_eq_false_iff]; have := h.1; exact ⟨⟨by simp; omega, by simp; omega⟩, by simp; omega⟩
        rw [this]; rfl
      dsimp only at r
      rw [a1, a2, Bool.or_false, Bool.or_false] at r
      exact r
    · exact ⟨rfl, rfl⟩
def ifK (p : Nat × Bool) : Nat := if p.2 = true then 1 + 16 * p.1 else 2
def cStk (s : zPs) : List Nat := s.2.1 ++ ((if s.1 = 1 ∨ s.1 = 2 then [0] else []) ++ s.2.2.1.map ifK)
/-- the class's reader stands as s says -/
def cSt (h : zH) (n : Nat) (bs : Nat → Nat) (tc ot : Nat) (s : zPs) : Prop := cEx h n bs tc s.2.2.2.2.1 ∧ ∃ av as_, cWd h (cStk s) s.2.2.2.1.1 s.2.2.2.1.2 (wth s) (ot + s.2.2.2.2.2) av as_ ∧ (av < 256 ∧ ∀ v, av.testBit v = akV s.2.2.2.1.1 s.2.2.2.1.2 v) ∧ (as_ < 256 ∧ ∀ v, as_.testBit v = akS s.2.2.2.1.1 s.2.2.2.1.2 v)
theorem s4_readSign (J : Ivs V N own lim (2, E, I, (m, c), (i, u))) (X : cSt h n bs tc ot (2, E, I, (m, c), (i, u)))
    (H1 : ∀ s', sSg n bs E I m c i u = .inr s' → ∀ h', fr XP YX h h' → cSt h' n bs tc ot s' → Q (some (.int (nI s'.1))) h')
    (H2 : ∀ e, sSg n bs E I m c i u = .inl e → ∀ h' x, fr XP YX h h' → cLo h' n bs tc e → Q (some (.int x)) h') : zC mX4_readSign [.ref 1] h Q := by
  obtain ⟨jE, jw, ju, jl, jA, jp, j0, j1, j2, j4, j5⟩ := J
  have jw' : ard E + 1 + I.length ≤ 7 := by
    have : wth (2, E, I, (m, c), (i, u)) = ard E + (if (2 : Nat) = 1 ∨ (2 : Nat) = 2 then 1 else 0) + I.length := rfl
    rw [this, if_pos (by decide)] at jw
    exact jw
  have jm : m + pnd E + 1 ≤ 8 * u := (j2 rfl).1
  have ju' : u ≤ lim := ju
  have m0 : 0 < m := (j2 rfl).2
  have jA' : cdI V N own m c I (opd E + 1) := by
    have : cdI V N own m c I (if (2 : Nat) = 1 then opd E else if (2 : Nat) = 2 then opd E + 1 else 0) := jA
    rw [if_neg (by decide), if_pos rfl] at this
    exact this
  have jE : wfE E := jE
  have l34 := (opd_35 jE (by omega)).2
  obtain ⟨P, av, as_, D, bv, bS⟩ := X
  dsimp only at P bv bS
  have D' : cWd h (E ++ (0 :: I.map ifK)) m c (ard E + (1 + I.length)) (ot + u) av as_ := by
    have es : cStk (2, E, I, (m, c), (i, u)) = E ++ (0 :: I.map ifK) := rfl
    have ew : wth (2, E, I, (m, c), (i, u)) = ard E + (1 + I.length) := by show ard E + 1 + I.length = _; omega
    rw [es, ew] at D
    exact D
  have lB : (0 :: I.map ifK).length = I.length + 1 := by rw [List.length_cons, List.length_map]
  have bits : ∀ b, 1 ≤ b → (av < 256 ∧ ∀ v, av.testBit v = akV (stl b E m c).2.1 (stl b E m c).2.2 v) ∧ (as_ < 256 ∧ ∀ v, as_.testBit v = akS (stl b E m c).2.1 (stl b E m c).2.2 v) := fun b hb => ⟨⟨bv.1, fun v => by rw [(stl_ak hb (v := v) E m c jE).1]; exact bv.2 v⟩, ⟨bS.1, fun v => by rw [(stl_ak hb (v := v) E m c jE).2]; exact bS.2 v⟩⟩
  have b31 := (tk_k (n := n) (bs := bs) i).1
  -- after a sign
  have nst : ∀ (s b : Nat) (h8 : zH), s ≠ 3 → s ≠ 6 → 1 ≤ b → cEx h8 n bs tc (i + 1) → cWd h8 (s :: ((stl b E m c).1 ++ (0 :: I.map ifK))) (stl b E m c).2.1 (stl b E m c).2.2 (ard (stl b E m c).1 + (1 + I.length)) (ot + u) av as_ → cSt h8 n bs tc ot (1, s :: (stl b E m c).1, I, ((stl b E m c).2.1, (stl b E m c).2.2), (i + 1, u)) := fun s b h8 s3 s6 hb P8 D8 => by
    refine ⟨P8, av, as_, ?_, (bits b hb).1, (bits b hb).2⟩
    have ew : wth (1, s :: (stl b E m c).1, I, ((stl b E m c).2.1, (stl b E m c).2.2), (i + 1, u)) = ard (stl b E m c).1 + (1 + I.length) := by
      show ((if s = 3 ∨ s = 6 then 1 else 0) + ard (stl b E m c).1) + 1 + I.length = _
      rw [if_neg (by omega)]; omega
    rw [ew]
    exact D8
  have join : ∀ s b : Nat, sgD (tk n bs i).1 = some (s, b) → b ≠ 4 → b ≤ 5 → (tk n bs i).1 ≠ 30 → (tk n bs i).1 ≠ 31 → zC mX4_joinBy [.ref 1, .int (nI s), .int (nI b)] h (fun r0 h2 => ∃ x3 : Int32, r0 = some (.int x3) ∧ (Q (some (.int x3)) h2)) := fun s b hs b4 b5 n30 n31 => by
    have f := sgD_f hs
    dsimp only at f
    refine e4_joinBy (w0 := 1 + I.length) (B := 0 :: I.map ifK) P ⟨f.2.2.2.2.1, b5⟩ rfl (Nat.succ_pos _) jE (by rw [lB]; omega) (by omega) D' n30 n31 (fun h8 F8 P8 D8 => ⟨_, rfl, ?_⟩)
    have e : sSg n bs E I m c i u = .inr (1, s :: (stl b E m c).1, I, ((stl b E m c).2.1, (stl b E m c).2.2), (i + 1, u)) := by
      unfold sSg
      simp only [hs]
      rw [if_neg b4, if_neg (fun z => b4 z.1)]
    exact H1 _ e h8 F8 (nst s b h8 (by omega) f.2.2.1 f.2.2.2.2.1 P8 D8)
  have rel : ∀ s : Nat, sgD (tk n bs i).1 = some (s, 4) → (tk n bs i).1 ≠ 30 → (tk n bs i).1 ≠ 31 → zC mX4_relateBy [.ref 1, .int (nI s)] h (fun r0 h2 => ∃ x3 : Int32, r0 = some (.int x3) ∧ (Q (some (.int x3)) h2)) := fun s hs n30 n31 => by
    have f := sgD_f hs
    dsimp only at f
    refine e4_relateBy (w0 := 1 + I.length) (B := 0 :: I.map ifK) P rfl (Nat.succ_pos _) jE (by rw [lB]; omega) (by omega) D' n30 n31 (fun q h8 F8 P8 D8 => ⟨_, rfl, ?_⟩) (fun q h8 F8 L8 => ⟨_, rfl, ?_⟩)
    · have e : sSg n bs E I m c i u = .inr (1, s :: (stl 5 E m c).1, I, ((stl 5 E m c).2.1, (stl 5 E m c).2.2), (i + 1, u)) := by
        unfold sSg
        simp only [hs]
        rw [if_pos trivial, if_neg (fun z => q z.2)]
      exact H1 _ e h8 F8 (nst s 5 h8 (by omega) f.2.2.1 (by decide) P8 D8)
    · have e : sSg n bs E I m c i u = .inl (mp n bs i) := by
        unfold sSg
        simp only [hs]
        rw [if_pos trivial, if_pos ⟨trivial, q⟩]
      exact H2 _ e h8 _ F8 L8
  refine nX4_readSign _ _ _ (bX4_readSign_0 _ _ _ ⟨P.1.1.1, _, P.1.1.2.1, P.1.1.2.2.2.2.1.1, ?_⟩)
  rw [P.1.2.2.2.2.1]
  have hk : ∀ k, k < 2 ^ 31 → (nI (tk n bs i).1 = nI k ↔ (tk n bs i).1 = k) := fun k hk => nI_eq (by omega) hk
  rw [nI_lit 7, nI_lit 14, nI_lit 15, nI_lit 24, nI_lit 25, nI_lit 26, nI_lit 27, nI_lit 28, nI_lit 29, hk 7 (by decide), hk 14 (by decide), hk 15 (by decide), hk 24 (by decide), hk 25 (by decide), hk 26 (by decide), hk 27 (by decide), hk 28 (by decide), hk 29 (by decide)]
  have st := stl_i (Nat.le_refl 1) E m c jE (by omega) (by omega) jA'
  refine ⟨fun q => ?_, fun q => ?_, fun q => ?_, fun q => ?_, fun q => ?_, fun q => ?_, fun q => ?_, fun q => ?_, fun q => ?_, fun a1 a2 a3 a4 a5 a6 a7 a8 a9 => ?_⟩
  · have hs : sgD (tk n bs i).1 = none := by rw [q]; rfl
    refine bX4_readSign_168 _ _ _ ⟨P.1.1.1, e4_leaveQuestion (w0 := 1 + I.length) (B' := I.map ifK) P jE (by rw [List.length_map]; omega) (by omega) D' (by omega) (by omega) (by omega) (fun z h8 F8 P8 D8 => ⟨_, rfl, ?_⟩) (fun z h8 F8 L8 => ⟨_, rfl, ?_⟩)⟩
    · have e : sSg n bs E I m c i u = .inr (0, [], ((stl 1 E m c).2.1, true) :: I, ((stl 1 E m c).2.1 + 1, pE (stl 1 E m c).2.2 (stl 1 E m c).2.1 (3, 0, 0)), (i + 1, u)) := by
        unfold sSg
        simp only [hs]
        rw [if_neg (by omega), if_pos q, z]
      have b1 := bits 1 (by decide)
      refine H1 _ e h8 F8 ⟨P8, av, as_, ?_, ⟨b1.1.1, fun v => ?_⟩, ⟨b1.2.1, fun v => ?_⟩⟩
      · have ew : wth (0, [], ((stl 1 E m c).2.1, true) :: I, ((stl 1 E m c).2.1 + 1, pE (stl 1 E m c).2.2 (stl 1 E m c).2.1 (3, 0, 0)), (i + 1, u)) = 1 + I.length := by
          show 0 + (if (0 : Nat) = 1 ∨ (0 : Nat) = 2 then 1 else 0) + (I.length + 1) = _
          rw [if_neg (by decide)]; omega
        rw [ew]
        exact D8
      · show av.testBit v = akV ((stl 1 E m c).2.1 + 1) (pE (stl 1 E m c).2.2 (stl 1 E m c).2.1 (3, 0, 0)) v
        rw [akV_e, b1.1.2 v]
        show _ = (_ || (false && (0 : Nat) == v))
        rw [Bool.false_and, Bool.or_false]
      · show as_.testBit v = akS ((stl 1 E m c).2.1 + 1) (pE (stl 1 E m c).2.2 (stl 1 E m c).2.1 (3, 0, 0)) v
        rw [akS_e, b1.2.2 v]
        show _ = (_ || (false && (0 : Nat) == v))
        rw [Bool.false_and, Bool.or_false]
    · have e : sSg n bs E I m c i u = .inl (mp n bs i) := by
        unfold sSg
        simp only [hs]
        rw [if_neg (by omega), if_pos q]
      exact H2 _ e h8 _ F8 L8
  · exact bX4_readSign_156 _ _ _ ⟨P.1.1.1, join 4 1 (by rw [q]; rfl) (by decide) (by decide) (by omega) (by omega)⟩
  · exact bX4_readSign_149 _ _ _ ⟨P.1.1.1, join 5 2 (by rw [q]; rfl) (by decide) (by decide) (by omega) (by omega)⟩
  · have hs : sgD (tk n bs i).1 = none := by rw [q]; rfl
    refine bX4_readSign_163 _ _ _ ⟨P.1.1.1, e4_leaveBrackets (w0 := 1 + I.length) (B := 0 :: I.map ifK) P rfl (Nat.succ_pos _) jE (by rw [lB]; omega) (by omega) D' (by omega) (by omega) (fun E' z h8 F8 P8 D8 => ⟨_, rfl, ?_⟩) (fun z h8 F8 L8 => ⟨_, rfl, ?_⟩)⟩
    · have e : sSg n bs E I m c i u = .inr (2, E', I, ((stl 1 E m c).2.1, (stl 1 E m c).2.2), (i + 1, u)) := by
        unfold sSg
        simp only [hs]
        rw [if_pos q, z] <;> rfl
      have b1 := bits 1 (by decide)
      refine H1 _ e h8 F8 ⟨P8, av, as_, ?_, b1.1, b1.2⟩
      have ew : wth (2, E', I, ((stl 1 E m c).2.1, (stl 1 E m c).2.2), (i + 1, u)) = ard E' + (1 + I.length) := by
        show ard E' + (if (2 : Nat) = 1 ∨ (2 : Nat) = 2 then 1 else 0) + I.length = _
        rw [if_pos (by decide)]; omega
      rw [ew]
      exact D8
    · have e : sSg n bs E I m c i u = .inl (mp n bs i) := by
        unfold sSg
        simp only [hs]
        rw [if_pos q]
      exact H2 _ e h8 _ F8 L8
  · exact bX4_readSign_128 _ _ _ ⟨P.1.1.1, rel 7 (by rw [q]; rfl) (by omega) (by omega)⟩
  · exact bX4_readSign_135 _ _ _ ⟨P.1.1.1, rel 8 (by rw [q]; rfl) (by omega) (by omega)⟩
  · exact bX4_readSign_142 _ _ _ ⟨P.1.1.1, rel 9 (by rw [q]; rfl) (by omega) (by omega)⟩
  · exact bX4_readSign_112 _ _ _ ⟨P.1.1.1, join 10 5 (by rw [q]; rfl) (by decide) (by decide) (by omega) (by omega)⟩
  · exact bX4_readSign_120 _ _ _ ⟨P.1.1.1, join 11 5 (by rw [q]; rfl) (by decide) (by decide) (by omega) (by omega)⟩
  · have hs : sgD (tk n bs i).1 = none := by
      unfold sgD
      rw [if_neg a8, if_neg a9, if_neg a5, if_neg a6, if_neg a7, if_neg a3, if_neg a2]
    have e : sSg n bs E I m c i u = .inl (mp n bs i) := by
      unfold sSg
      simp only [hs]
      rw [if_neg a4, if_neg a1]
    exact bX4_readSign_173 _ _ _ ⟨P.1.1.1, e4_fail (k := 2) P (by decide) (fun h8 F8 L8 => ⟨_, rfl, H2 _ e h8 _ F8 L8⟩)⟩
end

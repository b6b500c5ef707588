/-! ===== the class: rounds, soonest ===== -/
section
variable {h h' : zH} {Q : Option Value → zH → Prop} {X : List Nat} {Y : List (Nat × Nat)} {p : Nat → Nat} {V N : Nat} {f : (Nat → Nat) → Nat → Nat}
theorem rdp_congr (hf : fC V f) (ho : ∀ i, i < V → p i < V) : ∀ (i : Nat) (m m' : Nat → Nat), i ≤ V → (∀ v, v < V → m v = m' v) → ∀ v, v < V → rdp f p i m v = rdp f p i m' v
  | 0, _, _, _, h => h
  | i + 1, m, m', hi, h => fun v hv => by
    have ih := rdp_congr hf ho i m m' (by omega) h
    rw [rdp, rdp]
    by_cases z : v = p i
    · rw [z, ud_s, ud_s]; exact hf _ _ ih _ (ho i (by omega))
    · rw [ud_n z, ud_n z]; exact ih v hv
theorem xs_per (hf : fC V f) (ho : ∀ i, i < V → p i < V) {a c : Nat} (e : ∀ v, v < V → xsF f p V a v = xsF f p V c v) : ∀ t v, v < V → xsF f p V (a + t) v = xsF f p V (c + t) v := by
  intro t
  induction t with
  | zero => exact e
  | succ t ih => exact rdp_congr hf ho V _ _ (Nat.le_refl _) ih
/-- a row that comes again comes again for ever -/
theorem xs_cyc (hf : fC V f) (ho : ∀ i, i < V → p i < V) {e k : Nat} (hek : e < k) (h1 : ∀ v, v < V → xsF f p V (e + 1) v = xsF f p V (k + 1) v) (h2 : ∀ j, j ≤ k → fixB f p V j = false) : ∀ j, fixB f p V j = false := by
  have per := xs_per hf ho h1
  have key : ∀ n j, j ≤ n → fixB f p V j = false := by
    intro n
    induction n with
    | zero => intro j hj; exact h2 j (by omega)
    | succ n ih =>
      intro j hj
      by_cases z : j ≤ k
      · exact h2 j z
      · have i1 := ih (j - (k - e)) (by omega)
        cases hb : fixB f p V j
        · rfl
        · exfalso
          rw [fixB_iff] at hb
          have : fixB f p V (j - (k - e)) = true := by
            rw [fixB_iff]
            intro v hv
            have a1 := per (j - k - 1) v hv
            have a2 := per (j - k) v hv
            rw [show e + 1 + (j - k - 1) = j - (k - e) by omega, show k + 1 + (j - k - 1) = j by omega] at a1
            rw [show e + 1 + (j - k) = j - (k - e) + 1 by omega, show k + 1 + (j - k) = j + 1 by omega] at a2
            rw [a1, a2]; exact hb v hv
          rw [this] at i1; cases i1
  exact fun j => key j j (Nat.le_refl _)
theorem en4_put {m : Nat → Nat} {v x : Nat} (hm : ∀ w, w < V → m w < 4) (hv : v < V) {g : Nat → Nat} (hg : ∀ w, w < V → g w < 4) (hx : g v = x) : (nI (en 4 V m) &&& (nI (en 4 V (fun w => if w = v then 3 else 0)) ^^^ (-1 : Int32))) ||| (nI (en 4 V g) &&& nI (en 4 V (fun w => if w = v then 3 else 0))) = nI (en 4 V (ud m v x)) := by
  have f1 : ∀ w, w < V → (if w = v then 3 else 0) < 4 := fun w _ => by split <;> omega
  have f4 : ∀ w, w < V → m w &&& (if w = v then 3 else 0) < 4 := fun w hw => Nat.and_lt_two_pow (n := 2) _ (f1 w hw)
  have f5 : ∀ w, w < V → g w &&& (if w = v then 3 else 0) < 4 := fun w hw => Nat.and_lt_two_pow (n := 2) _ (f1 w hw)
  rw [nI_andn, nI_and, nI_or, en4_and hm f1, en4_and hg f1, en4_xor hm f4, en4_or (fun w hw => Nat.xor_lt_two_pow (n := 2) (hm w hw) (f4 w hw)) f5]
  congr 1
  refine en_congr (fun w hw => ?_)
  unfold ud
  by_cases z : w = v
  · simp only [if_pos z, dd4 _ (hm w hw), dd3 _ (hg w hw), Nat.zero_or]
    rw [z]; exact hx
  · simp only [if_neg z, Nat.and_zero, Nat.xor_zero, Nat.or_zero]
theorem s3_roundsToRest {sc most : Nat} (L : cOl h) (A : cTu h V p) (G : gI h 19 1 = nI V) (hV : V ≤ 8) (hN : N ≤ 3) (ho : ∀ i, i < V → p i < V) (hf : fC V f) (hn : fN V N f) (ks : iK h sc 0) (hsz : 4 ^ V ≤ aN h sc) (hs2 : aN h sc ≤ 65536) (D : sdR h sc N V (fun r => f (dg 4 V r))) (hm : most ≤ 40)
    (H : Q (some (.int (oI (fsN (fixB f p V) (most + 1) 0)))) h) : zC mX3_roundsToRest [.ref 19, .ref sc, .int (nI most)] h Q := by
  obtain ⟨o, r, k20, n20⟩ := L
  have p4 : 4 ^ V ≤ 65536 := Nat.le_trans (Nat.pow_le_pow_right (by decide) hV) (by decide)
  have inner : ∀ (k : Nat) (l4 : Int32), (zX mX3_roundsToRest 20 [.ref 19, .ref sc, .int (nI most), .int (nI (en 4 V (xsF f p V (k + 1)))), .int l4, .int (nI k), .int (nI (en 4 V (xsF f p V k))), .int (nI V), .float 0] [] h Q) → ∀ (d i : Nat), i + d = V → zX mX3_roundsToRest 20 [.ref 19, .ref sc, .int (nI most), .int (nI (en 4 V (rdp f p i (xsF f p V k)))), .int l4, .int (nI k), .int (nI (en 4 V (xsF f p V k))), .int (nI i), .float 0] [] h Q := by
    intro k l4 go d
    have xk := xs_le hn ho k
    induction d with
    | zero =>
      intro i hi
      have : i = V := by omega
      subst this
      exact go
    | succ d ih =>
      intro i hi
      have nx := ih (i + 1) (by omega)
      have oi := ho i (by omega)
      have rl := rdp_le hn ho i _ (show i ≤ V by omega) xk
      rw [rdp] at nx
      generalize rdp f p i (xsF f p V k) = m at *
      have m4 : ∀ v, v < V → m v < 4 := fun v hv => by have := rl v hv; omega
      have f4 : ∀ v, v < V → f m v < 4 := fun v hv => by have := hn m rl v hv; omega
      have rlt : en 4 V m < 4 ^ V := en_lt m4
      have hcb : cbB N V (en 4 V m) = true := cbB_iff.mpr (fun v hv => by rw [dg_en m4 v hv]; exact rl v hv)
      have dr := D _ rlt hcb
      refine bX3_roundsToRest_20 _ _ _ _ _ _ _ _ _ _ ⟨o, br_f (by rw [G]; exact nI_ge (by omega) (by omega)) ⟨_, r, s11_atN k20 n20 (by omega) (by decide) ⟨_, rfl, s11_atN ks rfl (by omega) (by omega) ⟨_, rfl, ?_⟩⟩⟩⟩
      rw [G, A i (by omega), dr.1]
      have eb : (3 : Int32) <<< (((2 : Int32) * ((nI V - (1 : Int32)) - nI (p i))) &&& 31) = nI (en 4 V (fun w => if w = p i then 3 else 0)) := by
        obtain ⟨V', rfl⟩ : ∃ V', V = V' + 1 := ⟨V - 1, by omega⟩
        rw [nI_pred, nI_sub (by omega), nI_lit 2, nI_mul, nI_lit 3, nI_shl (by omega) (Nat.lt_of_lt_of_le (Nat.mul_lt_mul_of_lt_of_le (show 3 < 4 by omega) (Nat.pow_le_pow_right (by decide) (show 2 * (V' - p i) ≤ 14 by omega)) (Nat.two_pow_pos _)) (by decide)), en_one oi, ← p42, Nat.add_sub_cancel]
      rw [eb, en_congr (m := fun w => f (dg 4 V (en 4 V m)) w) (m' := f m) (fun v hv => hf _ _ (dg_en m4) v hv), en4_put m4 oi f4 rfl, nI_1]
      exact nx
  have outer : ∀ (d k : Nat) (l4 : Int32), k + d = most + 1 → (∀ j, j < k → fixB f p V j = false) → (l4 = -1 ∨ ∃ e, e < k ∧ l4 = nI (en 4 V (xsF f p V (e + 1)))) → fsN (fixB f p V) d k = fsN (fixB f p V) (most + 1) 0 → zX mX3_roundsToRest 8 [.ref 19, .ref sc, .int (nI most), .int (nI (en 4 V (xsF f p V k))), .int l4, .int (nI k), .float 0, .float 0, .float 0] [] h Q := by
    intro d
    induction d with
    | zero =>
      intro k l4 hk no he e
      rw [← e] at H
      exact bX3_roundsToRest_8 _ _ _ _ _ _ _ _ (br_t (nI_lt (by omega) (by omega)) H)
    | succ d ih =>
      intro k l4 hk no he e
      rw [fsN] at e
      have xl : ∀ j v, v < V → xsF f p V j v < 4 := fun j v hv => by have := xs_le hn ho j v hv; omega
      have el : ∀ j, en 4 V (xsF f p V j) < 65536 := fun j => Nat.lt_of_lt_of_le (en_lt (xl j)) p4
      have ev : ∀ i j, en 4 V (xsF f p V i) = en 4 V (xsF f p V j) ↔ ∀ v, v < V → xsF f p V i v = xsF f p V j v := fun i j => ⟨fun z => en_inj (xl i) (xl j) z, fun z => en_congr z⟩
      have x1 := el (k + 1)
      have x0 := el k
      refine bX3_roundsToRest_8 _ _ _ _ _ _ _ _ (br_f (nI_nlt (by omega) (by omega)) (inner k l4 ?_ V 0 (by omega)))
      refine bX3_roundsToRest_20 _ _ _ _ _ _ _ _ _ _ ⟨o, br_t (by rw [G]; exact nI_le (Nat.le_refl _) (by omega)) ?_⟩
      rw [nI_eq (by omega) (by omega), ev, ← fixB_iff]
      refine ⟨fun q => ?_, fun q => ?_⟩
      · rw [if_pos q] at e
        rw [← e] at H
        exact H
      · rw [if_neg q] at e
        have q' : fixB f p V k = false := by simpa using q
        have no' : ∀ j, j < k + 1 → fixB f p V j = false := fun j hj => by
          by_cases z : j = k
          · rw [z]; exact q'
          · exact no j (by omega)
        refine ⟨fun q2 => ?_, fun q2 => s6_bitCount (by omega) ⟨_, rfl, ?_⟩⟩
        · rcases he with z | ⟨e0, e1, e2⟩
          · rw [z] at q2
            exact absurd (by rw [q2]; decide) (nI_pos (n := en 4 V (xsF f p V (k + 1))) (by omega))
          · rw [e2, nI_eq (by omega) (by have := el (e0 + 1); omega), ev] at q2
            have all := xs_cyc hf ho e1 (fun v hv => (q2 v hv).symm) (fun j hj => no' j (by omega))
            have : fsN (fixB f p V) (most + 1) 0 = none := fsN_none.mpr (fun x _ _ => all x)
            rw [this] at H
            exact H
        · rw [nI_1]
          refine ⟨fun _ => ih (k + 1) l4 (by omega) no' ?_ e, fun _ => ih (k + 1) _ (by omega) no' (Or.inr ⟨k, by omega, rfl⟩) e⟩
          rcases he with z | ⟨e0, e1, e2⟩
          · exact Or.inl z
          · exact Or.inr ⟨e0, by omega, e2⟩
  refine nX3_roundsToRest _ _ _ _ _ (bX3_roundsToRest_0 _ _ _ _ _ ?_)
  have := outer (most + 1) 0 (-1) (by omega) (fun j hj => absurd hj (Nat.not_lt_zero _)) (Or.inl rfl) rfl
  have z : en 4 V (xsF f p V 0) = 0 := en_0
  rw [z] at this
  exact this
theorem fsN_cut {p : Nat → Bool} : ∀ (d e v : Nat), fsN p d v = (match fsN p (d + e) v with | none => none | some k => if k < v + d then some k else none)
  | 0, e, v => by
    rw [Nat.zero_add]
    cases hk : fsN p e v with
    | none => rfl
    | some k =>
      have := (fsN_lt hk).1
      simp only [Nat.add_zero]
      rw [if_neg (by omega)]; rfl
  | d + 1, e, v => by
    rw [show d + 1 + e = (d + e) + 1 by omega, fsN, fsN]
    split
    · simp
    · rw [fsN_cut d e (v + 1)]
      have : v + 1 + d = v + (d + 1) := by omega
      rw [this]
theorem bs_zero {x : Nat} : ∀ (d : Nat) (p : Nat → Nat), bsF f V d p (some (0, x)) = some (0, x)
  | 0, _ => rfl
  | d + 1, p => by
    rw [bsF]
    have : upB f V (some (0, x)) p = some (0, x) := by
      unfold upB
      cases rsO f p V with
      | none => rfl
      | some k => simp
    rw [this, bs_zero d]
theorem fc_le : ∀ k, k ≤ 8 → fcF k ≤ 40320 := by decide
theorem s3_search {sc : Nat} (L : cOl h) (hV : V ≤ 8) (hN : N ≤ 3) (hf : fC V f) (hn : fN V N f) (ks : iK h sc 0) (hsz : 4 ^ V ≤ aN h sc) (hs2 : aN h sc ≤ 65536) (hsc : sc ≠ 20) (D : sdR h sc N V (fun r => f (dg 4 V r)))
    (H : ∀ h', fr [20] [(19, 1), (19, 2), (19, 3), (19, 4)] h h' → gI h' 19 4 = 1 → gI h' 19 2 = soA (soF f V) 0 → gI h' 19 3 = soA (soF f V) 1 → Q none h') : zC mX3_search [.ref 19, .ref sc, .int (nI V)] h Q := by
  have p4 : 4 ^ V ≤ 65536 := Nat.le_trans (Nat.pow_le_pow_right (by decide) hV) (by decide)
  have fc8 := fc_le V hV
  have Lr : ∀ h0, fr [20] [(19, 1), (19, 2), (19, 3), (19, 4)] h h0 → cOl h0 := fun h0 F => L.fr F (by simp)
  have Dr : ∀ h0, fr [20] [(19, 1), (19, 2), (19, 3), (19, 4)] h h0 → sdR h0 sc N V (fun r => f (dg 4 V r)) := fun h0 F r hr hc => by rw [F.i (by simpa using hsc)]; exact D r hr hc
  have b0 : ∀ best : Option (Nat × Nat), soA best 0 = (match best with | none => -1 | some bb => nI bb.1) := fun best => by cases best <;> rfl
  have b1 : ∀ best : Option (Nat × Nat), soA best 1 = (match best with | none => -1 | some bb => nI bb.2) := fun best => by cases best <;> rfl
  have fin : ∀ (h0 : zH) (best : Option (Nat × Nat)), fr [20] [(19, 1), (19, 2), (19, 3), (19, 4)] h h0 → gI h0 19 2 = soA best 0 → gI h0 19 3 = soA best 1 → best = soF f V → ∀ h3, h3 = pF h0 19 4 (.int 1) → Q none h3 := fun h0 best F g2 g3 e h3 e3 => by
    have o0 := (Lr h0 F).1
    refine H h3 (F.tr (by rw [e3]; exact fr_pF (by simp) o0 rfl rfl)) (by rw [e3]; exact gI_pF_s o0 (by decide)) (by rw [e3, gI_pF_n (Or.inr (by decide)), g2, e]) (by rw [e3, gI_pF_n (Or.inr (by decide)), g3, e])
  have L53 : ∀ (d i : Nat) (h0 : zH) (p : Nat → Nat) (best : Option (Nat × Nat)), i + d = fcF V → fr [20] [(19, 1), (19, 2), (19, 3), (19, 4)] h h0 → gI h0 19 1 = nI V → cTu h0 V p → okP V p → gI h0 19 2 = soA best 0 → gI h0 19 3 = soA best 1 → (∀ bb, best = some bb → bb.1 < 41) → bsF f V d p best = soF f V → zX mX3_search 53 [.ref 19, .ref sc, .float 0, .int (nI (fcF V)), .int (nI i), .float 0, .float 0] [] h0 Q := by
    intro d
    induction d with
    | zero =>
      intro i h0 p best hi F G A P g2 g3 hb e
      have : i = fcF V := by omega
      subst this
      exact bX3_search_53 _ _ _ _ _ _ (br_t (nI_le (Nat.le_refl _) (by omega)) ⟨(Lr h0 F).1, fin h0 best F g2 g3 e⟩)
    | succ d ih =>
      intro i h0 p best hi F G A P g2 g3 hb e
      have L0 := Lr h0 F
      have D0 := Dr h0 F
      refine bX3_search_53 _ _ _ _ _ _ (br_f (nI_ge (by omega) (by omega)) ⟨L0.1, ?_⟩)
      -- on with the next order
      have next : ∀ (h1 : zH) (best' : Option (Nat × Nat)), fr [20] [(19, 1), (19, 2), (19, 3), (19, 4)] h h1 → gI h1 19 1 = nI V → cTu h1 V p → gI h1 19 2 = soA best' 0 → gI h1 19 3 = soA best' 1 → (∀ bb, best' = some bb → bb.1 < 41) → best' = upB f V best p → zC mX3_goOn [.ref 19] h1 (fun r0 h6 => r0 = none ∧ zX mX3_search 53 [.ref 19, .ref sc, .float 0, .int (nI (fcF V)), .int (nI i + 1), .float 0, .float 0] [] h6 Q) := fun h1 best' F1 G1 A1 k2 k3 hb' eb => by
        refine s3_goOn (Lr h1 F1) A1 G1 hV P (fun h6 F6 A6 => ⟨rfl, ?_⟩)
        rw [nI_1]
        have P6 : okP V ((nxF V p).getD p) := by
          cases hx : nxF V p with
          | none => exact P
          | some q => exact (nx_ok P hx).1
        refine ih (i + 1) h6 _ best' (by omega) (F1.tr (F6.mo (by simp) (by simp))) (by rw [F6.gi (by simp)]; exact G1) A6 P6 (by rw [F6.gi (by simp)]; exact k2) (by rw [F6.gi (by simp)]; exact k3) hb' ?_
        rw [eb]; exact e
      have at85 : ∀ most : Nat, most ≤ 40 → (fsN (fixB f p V) (most + 1) 0 = none → upB f V best p = best) → (∀ k, fsN (fixB f p V) (most + 1) 0 = some k → upB f V best p = some (k, dgF p V)) → zX mX3_search 85 [.ref 19, .ref sc, .float 0, .int (nI (fcF V)), .int (nI i), .float 0, .float 0] [.int (nI most)] h0 Q := fun most hm u1 u2 => by
        refine bX3_search_85 _ _ _ _ _ _ _ ⟨L0.1, s3_roundsToRest L0 A G hV hN P.1 hf hn (F.ik ks) (by rw [F.n]; exact hsz) (by rw [F.n]; exact hs2) D0 hm ⟨_, rfl, ?_⟩⟩
        rw [oI_ne (fun x hx => by have := (fsN_lt hx).2.1; omega)]
        refine ⟨fun q => ⟨L0.1, next h0 best F G A g2 g3 hb (u1 q).symm⟩, fun q => ⟨L0.1, fun h8 e8 => ?_⟩⟩
        cases hk : fsN (fixB f p V) (most + 1) 0 with
        | none => exact absurd hk q
        | some k =>
          rw [hk] at e8
          have hk41 := (fsN_lt hk).2.1
          have F8' : fr [] [(19, 2)] h0 h8 := by rw [e8]; exact fr_pF (by simp) L0.1 rfl rfl
          have F8 := F.tr (F8'.mo (by simp) (by simp))
          have L8 := Lr h8 F8
          have G8 : gI h8 19 1 = nI V := by rw [F8'.gi (by simp)]; exact G
          have A8 : cTu h8 V p := fun j hj => by rw [F8'.i (by simp)]; exact A j hj
          refine s3_digits L8 A8 G8 hV ⟨_, rfl, L8.1, fun h13 e13 => ?_⟩
          have F13' : fr [] [(19, 3)] h8 h13 := by rw [e13]; exact fr_pF (by simp) L8.1 rfl rfl
          have F13 := F8.tr (F13'.mo (by simp) (by simp))
          exact next h13 (some (k, dgF p V)) F13 (by rw [F13'.gi (by simp)]; exact G8) (fun j hj => by rw [F13'.i (by simp)]; exact A8 j hj) (by rw [F13'.gi (by simp), e8]; exact gI_pF_s L0.1 (by decide)) (by rw [e13]; exact gI_pF_s L8.1 (by decide)) (fun bb hbb => by cases hbb; show k < 41; omega) (u2 k hk).symm
      rw [g2]
      cases best with
      | none =>
        refine br_f (by decide +kernel) (br_t rfl (at85 40 (by decide) (fun q => ?_) (fun k hk => ?_)))
        · unfold upB rsO; rw [q]
        · unfold upB rsO; rw [hk]
      | some bb =>
        have hbb := hb bb rfl
        have s0 : soA (some bb) 0 = nI bb.1 := rfl
        rw [s0, ← nI_0, nI_eq (by omega) (by decide)]
        refine ⟨fun q => fin h0 (some bb) F g2 g3 ?_, fun q => br_f (fun z => ?_) ?_⟩
        · obtain ⟨b1, b2⟩ := bb
          have : b1 = 0 := q
          subst this
          rw [bs_zero] at e; exact e
        · exact absurd (by rw [z]; decide) (nI_pos (n := bb.1) (by omega))
        · obtain ⟨w, hw⟩ : ∃ w, bb.1 = w + 1 := ⟨bb.1 - 1, by omega⟩
          rw [hw, nI_pred]
          have cut := @fsN_cut (fixB f p V) (w + 1) (41 - (w + 1)) 0
          rw [show w + 1 + (41 - (w + 1)) = 41 by omega, Nat.zero_add] at cut
          refine at85 w (by omega) (fun q2 => ?_) (fun k hk => ?_)
          · rw [cut] at q2
            unfold upB rsO
            cases hr : fsN (fixB f p V) 41 0 with
            | none => rfl
            | some k =>
              rw [hr] at q2
              by_cases z : k < w + 1
              · simp only [if_pos z] at q2; cases q2
              · show (if k < bb.1 then _ else _) = _
                rw [hw, if_neg z]
          · rw [cut] at hk
            unfold upB rsO
            cases hr : fsN (fixB f p V) 41 0 with
            | none => rw [hr] at hk; cases hk
            | some k' =>
              rw [hr] at hk
              by_cases z : k' < w + 1
              · simp only [if_pos z] at hk; cases hk
                show (if k < bb.1 then _ else _) = _
                rw [hw, if_pos z]
              · simp only [if_neg z] at hk; cases hk
  refine nX3_search _ _ _ _ _ (bX3_search_0 _ _ _ _ _ ⟨L.1, fun h2 e2 h4 e4 h6 e6 => ?_⟩)
  have F2 : fr [20] [(19, 1), (19, 2), (19, 3), (19, 4)] h h2 := by rw [e2]; exact fr_pF (by simp) L.1 rfl rfl
  have o2 := F2.o L.1
  have F4 : fr [20] [(19, 1), (19, 2), (19, 3), (19, 4)] h2 h4 := by rw [e4]; exact fr_pF (by simp) o2 rfl rfl
  have o4 := F4.o o2
  have F6 : fr [20] [(19, 1), (19, 2), (19, 3), (19, 4)] h4 h6 := by rw [e6]; exact fr_pF (by simp) o4 rfl rfl
  have FF := (F2.tr F4).tr F6
  have G6 : gI h6 19 1 = nI V := by rw [e6, gI_pF_n (Or.inr (by decide)), e4, gI_pF_n (Or.inr (by decide)), e2]; exact gI_pF_s L.1 (by decide)
  have k2 : gI h6 19 2 = -1 := by rw [e6, gI_pF_n (Or.inr (by decide)), e4]; exact gI_pF_s o2 (by decide)
  have k3 : gI h6 19 3 = -1 := by rw [e6]; exact gI_pF_s o4 (by decide)
  have L20 : ∀ (d i : Nat) (h0 : zH), i + d = V → fr [20] [] h6 h0 → (∀ j, j < i → aI h0 20 j = nI j) → zX mX3_search 20 [.ref 19, .ref sc, .int (nI V), .int (nI (fcF i)), .int (nI i), .float 0, .float 0] [] h0 Q := by
    intro d
    induction d with
    | zero =>
      intro i h0 hi F A
      have : i = V := by omega
      subst this
      refine bX3_search_20 _ _ _ _ _ _ _ (br_t (nI_le (Nat.le_refl _) (by omega)) ?_)
      exact L53 (fcF i) 0 h0 (fun j => j) none (by omega) (FF.tr (F.mo (by simp) (by simp))) (by rw [F.gi (by simp)]; exact G6) A ⟨fun j hj => hj, fun _ _ _ _ z => z⟩ (by rw [F.gi (by simp)]; exact k2) (by rw [F.gi (by simp)]; exact k3) (fun _ z => by cases z) rfl
    | succ d ih =>
      intro i h0 hi F A
      have L0 := Lr h0 (FF.tr (F.mo (by simp) (by simp)))
      refine bX3_search_20 _ _ _ _ _ _ _ (br_f (nI_ge (by omega) (by omega)) ⟨L0.1, _, L0.2.1, s11_putN L0.2.2.1 L0.2.2.2 (by omega) (by decide) (fun h4 e4 => ⟨rfl, ?_⟩)⟩)
      rw [nI_1, nI_mul, Nat.mul_comm]
      refine ih (i + 1) h4 (by omega) (F.tr (by rw [e4]; exact fr_pI (by simp))) (fun j hj => ?_)
      by_cases z : j = i
      · rw [e4, z]; exact aI_pI_s ⟨_, L0.2.2.1⟩
      · rw [e4, aI_pI_n (Or.inr z)]; exact A j (by omega)
  exact L20 V 0 h6 (by omega) fr.rf (fun j hj => absurd hj (Nat.not_lt_zero _))
end

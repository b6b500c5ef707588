/-! ===== the reference: the steps of a ballot ===== -/
section
variable {h h' : zH} {b N ns V xv : Nat} {st wt mk : Nat → Nat} {Q : Option Value → zH → Prop} {X : List Nat} {Y : List (Nat × Nat)}
theorem l12_saysNow {own n : Nat} {c : Nat → Nat × Nat × Nat} {Hh : Nat → Nat} (M : mT h b N ns V st wt) (E : mE h ns V xv st wt mk) (K : mM h V N mk) (ho : own < V) (C : mC h (8 * b + own) n c) (O : ∀ i, i < n → Hh i ≤ 40 ∧ okO V N own n i Hh (c i)) :
    ∀ m k i, k ≤ m → i + k = n → ∀ (h0 : zH) (l : List Int32), fr [107] [] h h0 → l.length = Hh i → stR (aI h0 107) l → (∀ h', fr [107] [] h h' → Q (some (.int (nI (ex (V + xv) N st wt mk own c k i 0 l)))) h') → zX mX12_saysNow 15 [.ref 84, .int (nI own), .int (nI (8 * b + own)), .int (nI l.length), .int (nI i), .float 0, .float 0] [] h0 Q := by
  have hV := M.V8
  have hN := M.N3
  have hb := M.b2
  intro m
  induction m with
  | zero =>
    intro k i hk hi h0 l F hl hs H
    have : k = 0 := by omega
    subst this
    have M0 := M.fr F (by decide)
    have C0 := C.fr F (by decide)
    refine bX12_saysNow_15 _ _ _ _ _ _ _ ⟨M0.l.o, _, M0.l.r21, M0.l.k21, by rw [M0.l.n21]; exact vp_in_nI (by omega) (by decide), br_t ?_ ?_⟩
    · rw [nI_clamp (by omega), C0.1]; exact nI_le (by omega) (by have := C0.2.1; omega)
    · have := H h0 F
      rwa [ex, nI_0] at this
  | succ m ih =>
    intro k i hk hi h0 l F hl hs H
    have M0 := M.fr F (by decide)
    have E0 := E.fr F (by decide) (by simp)
    have K0 := K.fr F (by decide)
    have C0 := C.fr F (by decide)
    have hn := C0.2.1
    cases k with
    | zero =>
      refine bX12_saysNow_15 _ _ _ _ _ _ _ ⟨M0.l.o, _, M0.l.r21, M0.l.k21, by rw [M0.l.n21]; exact vp_in_nI (by omega) (by decide), br_t ?_ ?_⟩
      · rw [nI_clamp (by omega), C0.1]; exact nI_le (by omega) (by omega)
      · have := H h0 F
        rwa [ex, nI_0] at this
    | succ k =>
      have hin : i < n := by omega
      obtain ⟨h40, hok⟩ := O i hin
      have hop := C0.2.2 i hin
      have pl : 640 * (8 * b + own) + i < 30720 := by omega
      have cl : (nI (640 * (8 * b + own) + i)).toNatClampNeg = 640 * (8 * b + own) + i := nI_clamp (by omega)
      have e640 : (640 : Int32) * nI (8 * b + own) + nI i = nI (640 * (8 * b + own) + i) := ix640 _ _
      have vi : ∀ a, aN h0 a = 30720 → vp_in (nI (640 * (8 * b + own) + i)) (aN h0 a) := fun a e => by rw [e]; exact vp_in_nI pl (by decide)
      generalize hpe : 640 * (8 * b + own) + i = p at *
      have go70 : ∀ x : Int32, aI h0 99 p = x → (x < 6 ∨ 10 < x) → zX mX12_saysNow 70 [.ref 84, .int (nI own), .int (nI (8 * b + own)), .int (nI l.length), .int (nI (i + 1)), .int (nI p), .int x] [] h0 Q → zX mX12_saysNow 15 [.ref 84, .int (nI own), .int (nI (8 * b + own)), .int (nI l.length), .int (nI i), .float 0, .float 0] [] h0 Q := fun x hx hc kk => by
        refine bX12_saysNow_15 _ _ _ _ _ _ _ ⟨M0.l.o, _, M0.l.r21, M0.l.k21, by rw [M0.l.n21]; exact vp_in_nI (by omega) (by decide), br_f ?_ ⟨_, M0.l.r23, M0.l.k23, by rw [e640]; exact vi _ M0.l.n23, ?_⟩⟩
        · rw [nI_clamp (by omega), C0.1]; exact nI_ge hin (by omega)
        · rw [e640, cl, hx, nI_1]
          refine ⟨fun _ => kk, fun q => br_t (hc.resolve_left q) kk⟩
      have gosay : ∀ (x : Int32) (r : Nat), aI h0 99 p = x → (¬ x < 6 ∧ ¬ 10 < x) → (((c i).1 = 12 ∧ (c i).2.2 ≤ N) ∨ ((c i).1 = 13 ∧ (c i).2.2 < V) ∨ (((c i).1 = 14 ∨ (c i).1 = 15) ∧ (c i).2.1 ≤ 4)) → (∀ l, st1 (V + xv) N st wt mk own (c i) 0 l = .inl r) → zX mX12_saysNow 15 [.ref 84, .int (nI own), .int (nI (8 * b + own)), .int (nI l.length), .int (nI i), .float 0, .float 0] [] h0 Q := fun x r hx hc hk0 hr => by
        refine bX12_saysNow_15 _ _ _ _ _ _ _ ⟨M0.l.o, _, M0.l.r21, M0.l.k21, by rw [M0.l.n21]; exact vp_in_nI (by omega) (by decide), br_f ?_ ⟨_, M0.l.r23, M0.l.k23, by rw [e640]; exact vi _ M0.l.n23, ?_⟩⟩
        · rw [nI_clamp (by omega), C0.1]; exact nI_ge hin (by omega)
        · rw [e640, cl, hx]
          refine br_f hc.1 (br_f hc.2 (s12_markOf M0 E0 K0 ho pl hop hk0 r (hr []) ⟨_, rfl, ?_⟩))
          have := H h0 F
          rw [ex, if_neg (Nat.not_lt_zero _), hr l] at this
          exact this
      have push : ∀ x : Int32, Hh (i + 1) = Hh i + 1 → st1 (V + xv) N st wt mk own (c i) 0 l = .inr (0, x :: l) → zX mX12_saysNow 196 [.ref 84, .int (nI own), .int (nI (8 * b + own)), .int (nI l.length), .int (nI (i + 1)), .float 0, .float 0] [.int x, .int (nI l.length), .ref 107] h0 Q := fun x hx he => by
        refine bX12_saysNow_196 _ _ _ _ _ _ _ _ _ _ ⟨M0.l.k39, by rw [M0.l.n39]; exact vp_in_nI (by omega) (by decide), fun h3 e3 => ?_⟩
        rw [nI_clamp (by omega)] at e3
        rw [nI_1]
        have F3 : fr [107] [] h0 h3 := by rw [e3]; exact fr_pI (by decide)
        have := ih k (i + 1) (by omega) (by omega) h3 (x :: l) (F.tr F3) (by simp only [List.length_cons]; omega) (by
          refine ⟨by rw [e3]; exact aI_pI_s ⟨_, M0.l.k39⟩, stR_c (fun j hj => ?_) hs⟩
          rw [e3, aI_pI_n (Or.inr (by omega))]) (fun h' F' => by
          have := H h' F'
          rwa [ex, if_neg (Nat.not_lt_zero _), he] at this)
        exact this
      have l107 : aN h0 107 = 120 := M0.l.n39
      rcases hok with ⟨e, g1, g2, g3⟩ | ⟨e, g1, g2, g3⟩ | ⟨e, g1, g2, g3, g4, g5⟩ | ⟨e, g1, g2, g3, g4, g5, g6⟩ | ⟨e, g1, g2, g3, g4⟩ | ⟨e, g1, g2, g3, g4⟩ | ⟨e, g1, g2, g3, g4, g5⟩ | ⟨e, g1, g2, g3, g4⟩ | ⟨e, g1, g2, g3, g4⟩
      · simp [opM, e] at hop
        refine go70 _ hop.1 (Or.inl (by decide +kernel)) (bX12_saysNow_70 _ _ _ _ _ _ _ _ _ (br_f (by decide +kernel) (br_f (by decide +kernel) ⟨M0.l.o, _, M0.l.r39, br_t rfl ⟨_, M0.l.r24, M0.l.k24, vi _ M0.l.n24, ?_⟩⟩)))
        rw [cl, hop.2]
        exact push _ g1 (by simp [st1, e])
      · have e' : st1 (V + xv) N st wt mk own (c i) 0 l = .inr (0, nI (vts (V + xv) st wt mk own (c i).2.1 (c i).2.2) :: l) := by simp [st1, e]
        simp [opM, e] at hop
        rcases hop with ⟨o1, o2, o3, o4⟩ | ⟨o1, o2, o3⟩
        · refine go70 _ o2 (Or.inl (by decide +kernel)) (bX12_saysNow_70 _ _ _ _ _ _ _ _ _ (br_f (by decide +kernel) (br_f (by decide +kernel) ⟨M0.l.o, _, M0.l.r39, br_f (by decide +kernel) (br_f (by decide +kernel) (br_t rfl ⟨_, M0.l.r24, M0.l.k24, vi _ M0.l.n24, _, M0.l.r25, M0.l.k25, vi _ M0.l.n25, ?_⟩))⟩)))
          rw [cl, o1, o3]
          exact s12_votesOf M0 E0 K0 ho (by omega) g2 ⟨_, rfl, push _ g1 e'⟩
        · refine go70 _ o2 (Or.inl (by decide +kernel)) (bX12_saysNow_70 _ _ _ _ _ _ _ _ _ (br_f (by decide +kernel) (br_f (by decide +kernel) ⟨M0.l.o, _, M0.l.r39, br_f (by decide +kernel) (br_f (by decide +kernel) (br_f (by decide +kernel) ⟨_, M0.l.r25, M0.l.k25, vi _ M0.l.n25, ?_⟩))⟩)))
          rw [cl, o1]
          exact s12_votesOf (m := 0) M0 E0 K0 ho (by omega) g2 ⟨_, rfl, push _ g1 (by rw [e', o3])⟩
      · simp [opM, e] at hop
        obtain ⟨o1, o2, o3⟩ := hop
        refine go70 _ o1 (Or.inl (by decide +kernel)) (bX12_saysNow_70 _ _ _ _ _ _ _ _ _ (br_f (by decide +kernel) (br_f (by decide +kernel) ⟨M0.l.o, _, M0.l.r39, br_f (by decide +kernel) (br_t rfl ⟨_, M0.l.r38, _, M0.l.r24, M0.l.k24, vi _ M0.l.n24, M0.l.k38, ?_, _, M0.l.r25, M0.l.k25, vi _ M0.l.n25, ?_⟩)⟩)))
        · rw [cl, o2, M0.l.n38]; exact vp_in_nI (by omega) (by decide)
        · have kk := K0 _ g4
          rw [cl, o2, nI_clamp (by omega), kk.1, o3, nI_eq (by omega) (by omega)]
          refine ⟨fun q => push _ g1 ?_, fun q => push _ g1 ?_⟩
          · simp [st1, e, q]
          · simp [st1, e, q]
      · simp [opM, e] at hop
        obtain ⟨o1, o2⟩ := hop
        match l, hl, hs, H, go70 with
        | [], hl, _, _, _ => rw [g1] at hl; cases hl
        | _ :: _ :: _, hl, _, _, _ => rw [g1] at hl; simp at hl
        | [y], hl, hs, H, go70 =>
          have ey : aI h0 107 0 = y := hs.1
          refine go70 _ o1 (Or.inl (by decide +kernel)) (bX12_saysNow_70 _ _ _ _ _ _ _ _ _ (br_t rfl ⟨M0.l.o, _, M0.l.r39, M0.l.k39, ?_, ?_⟩))
          · rw [l107, show nI [y].length + (-1) = nI 0 from nI_dn 0]; exact vp_in_nI (by decide) (by decide)
          · rw [show nI [y].length + (-1) = nI 0 from nI_dn 0, nI_clamp (by decide), ey]
            refine ⟨fun q => ⟨_, M0.l.r24, M0.l.k24, vi _ M0.l.n24, ?_⟩, fun q => ?_⟩
            · rw [cl, o2]
              refine ih (n - (c i).2.2) (c i).2.2 (by omega) (by omega) h0 [] F (by rw [g5]; rfl) trivial (fun h' F' => ?_)
              have := H h' F'
              rw [ex, if_neg (Nat.not_lt_zero _)] at this
              simp only [st1, e] at this
              simp [q] at this
              rw [show k = (n - (c i).2.2) + ((c i).2.2 - (i + 1)) by omega, ex_skip ((c i).2.2 - (i + 1)) _ (i + 1) (c i).2.2 [] (by omega)] at this
              exact this
            · refine ih k (i + 1) (by omega) (by omega) h0 [] F (by rw [g2]; rfl) trivial (fun h' F' => ?_)
              have := H h' F'
              rw [ex, if_neg (Nat.not_lt_zero _)] at this
              simp only [st1, e] at this
              simpa [q] using this
      · simp [opM, e] at hop
        match l, hl, hs, H, go70 with
        | [], hl, _, _, _ => simp at hl; omega
        | y :: r, hl, hs, H, go70 =>
          have hl' : r.length + 1 = Hh i := by simpa using hl
          have ey : aI h0 107 r.length = y := hs.1
          have ei : nI (y :: r).length - 1 = nI r.length := nI_pred r.length
          have cr : (nI r.length).toNatClampNeg = r.length := nI_clamp (by omega)
          have vr : vp_in (nI r.length) (aN h0 107) := by rw [l107]; exact vp_in_nI (by omega) (by decide)
          have fin : ∀ x h3, h3 = pI h0 107 r.length x → x = (if y = 0 then 1 else 0) → zX mX12_saysNow 15 [.ref 84, .int (nI own), .int (nI (8 * b + own)), .int (nI (y :: r).length), .int (nI (i + 1)), .float 0, .float 0] [] h3 Q := fun x h3 e3 ex' => by
            have F3 : fr [107] [] h0 h3 := by rw [e3]; exact fr_pI (by decide)
            refine ih k (i + 1) (by omega) (by omega) h3 (x :: r) (F.tr F3) (by simp only [List.length_cons]; omega) ⟨by rw [e3]; exact aI_pI_s ⟨_, M0.l.k39⟩, stR_c (fun j hj => ?_) hs.2⟩ (fun h' F' => ?_)
            · rw [e3, aI_pI_n (Or.inr (by omega))]
            · have := H h' F'
              rw [ex, if_neg (Nat.not_lt_zero _)] at this
              simp only [st1, e] at this
              rw [ex']
              simpa using this
          refine go70 _ hop (Or.inr (by decide +kernel)) (bX12_saysNow_70 _ _ _ _ _ _ _ _ _ (br_f (by decide +kernel) (br_t (by decide +kernel) (br_t rfl ⟨M0.l.o, _, M0.l.r39, M0.l.k39, by rw [ei]; exact vr, ?_⟩))))
          rw [ei, cr, ey]
          exact ⟨fun q => ⟨vr, fun h3 e3 => fin _ h3 e3 (by rw [if_pos q])⟩, fun q => ⟨vr, fun h3 e3 => fin _ h3 e3 (by rw [if_neg q])⟩⟩
      · simp [opM, e] at hop
        have e' : ∀ l, st1 (V + xv) N st wt mk own (c i) 0 l = .inl (c i).2.2 := fun l => by simp [st1, e]
        rcases hop with ⟨o1, _⟩ | ⟨o1, _⟩
        · exact gosay _ _ o1 (by decide +kernel) (Or.inl ⟨e, g4⟩) e'
        · exact gosay _ _ o1 (by decide +kernel) (Or.inl ⟨e, g4⟩) e'
      · simp [opM, e] at hop
        have e' : ∀ l, st1 (V + xv) N st wt mk own (c i) 0 l = .inl (mk (c i).2.2) := fun l => by simp [st1, e]
        exact gosay _ _ hop.1 (by decide +kernel) (Or.inr (Or.inl ⟨e, g4⟩)) e'
      · rcases e with e | e
        · simp [opM, e] at hop
          exact gosay _ _ hop.1 (by decide +kernel) (Or.inr (Or.inr ⟨Or.inl e, g3⟩)) (fun l => by simp [st1, e]; rfl)
        · simp [opM, e] at hop
          exact gosay _ _ hop.1 (by decide +kernel) (Or.inr (Or.inr ⟨Or.inr e, g3⟩)) (fun l => by simp [st1, e]; rfl)
      · have hx : ∃ x : Int32, aI h0 99 p = x ∧ 10 < x ∧ ¬ x = 5 ∧ 5 ≤ x ∧ ¬ x = 126 ∧ (((c i).1 = 4 ∧ x = 124) ∨ ((c i).1 = 5 ∧ x = 38) ∨ ((c i).1 = 7 ∧ x = 60) ∨ ((c i).1 = 8 ∧ x = 62) ∨ ((c i).1 = 9 ∧ x = 61) ∨ ((c i).1 = 10 ∧ x = 43) ∨ ((c i).1 = 11 ∧ x = 45)) := by
          rcases e with e | e | e | e | e | e | e <;> simp [opM, e] at hop <;> exact ⟨_, hop, by decide +kernel, by decide +kernel, by decide +kernel, by decide +kernel, by simp [e]⟩
        have hst : st1 (V + xv) N st wt mk own (c i) 0 l = .inr (0, jn (c i).1 (l.tail.headD 0) (l.headD 0) :: l.tail.tail) := by
          rcases e with e | e | e | e | e | e | e <;> simp [st1, e]
        obtain ⟨x, hx1, hx2, hx3, hx4, hx5, hx6⟩ := hx
        match l, hl, hs, H, go70, hst with
        | [], hl, _, _, _, _ => simp at hl; omega
        | [_], hl, _, _, _, _ => simp at hl; omega
        | y :: z :: r, hl, hs, H, go70, hst =>
          have hl' : r.length + 1 + 1 = Hh i := by simpa using hl
          have ey : aI h0 107 (r.length + 1) = y := hs.1
          have ez : aI h0 107 r.length = z := hs.2.1
          have ei : nI (y :: z :: r).length + (-1) = nI (r.length + 1) := nI_dn (r.length + 1)
          have ei2 : nI (r.length + 1) - 1 = nI r.length := nI_pred r.length
          have cr : (nI r.length).toNatClampNeg = r.length := nI_clamp (by omega)
          have cr1 : (nI (r.length + 1)).toNatClampNeg = r.length + 1 := nI_clamp (by omega)
          have vr : vp_in (nI r.length) (aN h0 107) := by rw [l107]; exact vp_in_nI (by omega) (by decide)
          have vr1 : vp_in (nI (r.length + 1)) (aN h0 107) := by rw [l107]; exact vp_in_nI (by omega) (by decide)
          refine go70 _ hx1 (Or.inr hx2) (bX12_saysNow_70 _ _ _ _ _ _ _ _ _ (br_f hx3 (br_t hx4 (br_f hx5 ⟨M0.l.o, _, M0.l.r39, M0.l.k39, by rw [ei, ei2]; exact vr, by rw [ei]; exact vr1, ?_⟩))))
          rw [ei, ei2, cr, cr1, ey, ez]
          refine s12_come hx6 ⟨_, rfl, M0.l.k39, vr, fun h3 e3 => ?_⟩
          have F3 : fr [107] [] h0 h3 := by rw [e3]; exact fr_pI (by decide)
          refine ih k (i + 1) (by omega) (by omega) h3 (jn (c i).1 z y :: r) (F.tr F3) (by simp only [List.length_cons]; omega) ⟨by rw [e3]; exact aI_pI_s ⟨_, M0.l.k39⟩, stR_c (fun j hj => ?_) hs.2.2⟩ (fun h' F' => ?_)
          · rw [e3, aI_pI_n (Or.inr (by omega))]
          · have := H h' F'
            rw [ex, if_neg (Nat.not_lt_zero _), hst] at this
            exact this
theorem s12_saysNow {own n : Nat} {c : Nat → Nat × Nat × Nat} (M : mT h b N ns V st wt) (E : mE h ns V xv st wt mk) (K : mM h V N mk) (ho : own < V) (C : mC h (8 * b + own) n c) (O : okC V N own n c) (H : ∀ h', fr [107] [] h h' → Q (some (.int (nI (sayF (V + xv) N st wt mk own n c)))) h') : zC mX12_saysNow [.ref 84, .int (nI own)] h Q := by
  have hV := M.V8
  have hb := M.b2
  obtain ⟨-, Hh, h0, O⟩ := O
  refine nX12_saysNow _ _ _ _ (bX12_saysNow_0 _ _ _ _ ⟨M.l.o, ?_⟩)
  rw [M.b26, ix8]
  exact l12_saysNow M E K ho C O n n 0 (Nat.le_refl _) (by omega) h [] fr.rf (by rw [h0]; rfl) trivial H
end

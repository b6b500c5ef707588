/-! ===== the class's rows made fresh, in any state ===== -/
section
variable {h h' : zH} {Q : Option Value → zH → Prop} {R : List Nat} {t t2 sc tc nc P c : Nat} {o : Nat → Option Nat} {bo : Nat → Nat → Option Nat} {w : zSt}
theorem wf_C (O : stO w) : fC (wV w) (wf w) := fun mk mk' e v hv => sayF_congr (Nat.le_refl _) (O.2.2.1.1 v hv) e
theorem wf_N (O : stO w) : fN (wV w) (wN w) (wf w) := fun mk hm v hv => sayF_le hm (O.2.2.1.1 v hv)
theorem cOq_fc {C : List Nat} {Y : List (Nat × Nat)} {V : Nat} {f : (Nat → Nat) → Nat → Nat} (A : cOq h V f) (F : fc C R Y h h') (l : 126 ≤ h.1) (hY : [2, 3, 4].all (fun f => !(Y.contains (19, f))) = true) : cOq h' V f := by
  simp only [List.all_cons, List.all_nil, and_true, Bool.and_eq_true] at hY
  obtain ⟨y2, y3, y4⟩ := hY
  rcases A with a | ⟨a, b, d⟩
  · exact Or.inl (by rw [F.gi l (by decide) (ni_of y4)]; exact a)
  · exact Or.inr ⟨by rw [F.gi l (by decide) (ni_of y4)]; exact a, by rw [F.gi l (by decide) (ni_of y2)]; exact b, by rw [F.gi l (by decide) (ni_of y3)]; exact d⟩
theorem cSq_fc {C : List Nat} {Y : List (Nat × Nat)} {N V : Nat} {f : (Nat → Nat) → Nat → Nat} {st wt : Nat → Nat} (A : cSq h N V f st wt) (F : fc C R Y h h') (l : 126 ≤ h.1) (hC : [22, 23].all (fun k => !(C.contains k)) = true) (hY : (!(Y.contains (21, 3))) = true) : cSq h' N V f st wt := by
  simp only [List.all_cons, List.all_nil, and_true, Bool.and_eq_true] at hC
  obtain ⟨KB, k1, k2, k3⟩ := A
  refine ⟨KB, by rw [F.gi l (by decide) (ni_of hY)]; exact k1, k2, fun j hj hb => ?_⟩
  have := k3 j hj hb
  unfold swK at this ⊢
  rw [F.i l (k := 22) (by decide) (ni_of hC.1), F.i l (k := 23) (by decide) (ni_of hC.2)]
  exact this
def RC : List Nat := [14, 15, 16, 17, 18]
/-- rows are fresh -/
def cRF (h : zH) (w : zSt) (sc tc nc : Nat) : Prop := cRf h sc tc nc (wN w) (wV w) (wS w) (wW w) (wf w)
theorem q5_refresh (A : cFx h w t t2 o bo) (B : cVr h w o bo sc tc nc) (O : stO w) (Z : cSz h P c sc tc nc)
    (H : ∀ h' sc' tc' nc', fc RC [sc, tc, nc] YW h h' → cFx h' w t t2 o bo → cVr h' w o bo sc' tc' nc' → cRF h' w sc' tc' nc' → gI h' 12 8 = 1 → cSz h' P (c + 1) sc' tc' nc' → Q none h') : zC mX5_refresh [.ref 12, .ref t, .ref 33] h Q := by
  have l := A.1.1
  have T := A.1.2.2.2.1.1
  obtain ⟨L, B8, ⟨Bs, Bx⟩, Bo, Bw⟩ := B
  rcases B8 with ⟨g8, S, D⟩ | ⟨g8, D, RF⟩
  · refine s5_refresh (R := [sc, tc, nc]) (cu := eU (wE w)) T A.2.1.2.1 A.2.2.1.1.1 L D (fun mk v hv => rfl) (fun v hv => ⟨(Bs v (by have := T.V8; omega)).1, O.2.2.1.1 v hv⟩) (by simp) l g8 (fun h2 sc' tc' nc' F L2 D2 e2 RF2 r1 r2 r3 n2 p2 => ?_)
    obtain ⟨-, ⟨-, -, c1, -⟩, ⟨-, -, c2, -⟩, ⟨-, -, c3, -⟩, -⟩ := L
    have F1 : fc [14, 15, 16, 17, 18] [sc, tc, nc] YW h h2 := fc_z F (fun k hk => by
      simp only [XW, List.mem_cons, List.not_mem_nil, or_false] at hk ⊢
      omega)
    have F2 : fc SC [sc, tc, nc] SY h h2 := fc_mo2 F1 (by decide) (by decide) (fun _ z => z)
    have hR : ∀ k, k ∈ [sc', tc', nc'] → k ∈ [sc, tc, nc] ∨ h.1 ≤ k := fun k hk => by
      simp only [List.mem_cons, List.not_mem_nil, or_false] at hk ⊢
      omega
    refine H h2 sc' tc' nc' F1 (cFx_fc A F2) ⟨L2, Or.inr ⟨e2, D2, RF2⟩, ⟨cBs_fc Bs F1 (by decide) (by decide) hR, fun k e hk he => cBs_fc (Bx k e hk he) F1 (by decide) (by decide) hR⟩, cOq_fc Bo F1 l (by decide), cSq_fc Bw F1 l (by decide) (by decide)⟩ RF2 e2 ⟨by have := Z.1; omega, by have := Z.2; omega⟩
  · refine nX5_refresh _ _ _ _ _ (bX5_refresh_0 _ _ _ _ _ ⟨L.1.1, fun z => ?_, fun _ => H h sc tc nc (fc_r (X := []) (Y0 := []) fr.rf rfl rfl) A ⟨L, Or.inr ⟨g8, D, RF⟩, ⟨Bs, Bx⟩, Bo, Bw⟩ RF g8 ⟨by have := Z.1; omega, by have := Z.2; omega⟩⟩)
    rw [g8] at z
    exact absurd z (by decide)
end

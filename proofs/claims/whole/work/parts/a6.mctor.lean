/-! ===== the reference's constructor: rows made one after another ===== -/
section
variable {h h' h1 h2 : zH} {L : List (Nat × Nat × Nat)} {f t n : Nat} {g : Nat → Int32}
/-- rows L = (field, kind or 3 for longs, length) are made in cells from 85 on, all zero; other fields are g -/
def mkI (h : zH) (L : List (Nat × Nat × Nat)) (g : Nat → Int32) : Prop := oK h 84 12 ∧ h.1 = 85 + L.length ∧ (∀ j q, L[j]? = some q → gR h 84 q.1 = some (85 + j) ∧ ((q.2.1 ≠ 3 → iK h (85 + j) q.2.1 ∧ ∀ i, aI h (85 + j) i = 0) ∧ (q.2.1 = 3 → lK h (85 + j))) ∧ aN h (85 + j) = q.2.2) ∧ ∀ k, (∀ q, q ∈ L → q.1 ≠ k) → gI h 84 k = g k
theorem mkI_s {e : zE} {c0 : Nat} (A : mkI h L g) (hf : ∀ q, q ∈ L → q.1 ≠ f) (he : (t ≠ 3 ∧ e = zI t n (fun _ => 0)) ∨ (t = 3 ∧ e = zL n (fun _ => 0))) (hz : (zkd 12)[f]? = some c0) (hv : zm c0 (zr (some h.1)) = true) (hk : f < (zkd 12).length) : mkI (pF (zn h e) 84 f (zr (some h.1))) (L ++ [(f, t, n)]) g := by
  obtain ⟨o, c, r, i⟩ := A
  have oz : oK (zn h e) 84 12 := oK_zn o
  have Fz : fz h.1 [] [] h (zn h e) := fz_zn (Nat.le_refl _)
  have zc : (zn h e).2.2 h.1 = e := zg_n.2
  have ol := o.1
  have F : fr [] [(84, f)] (zn h e) (pF (zn h e) 84 f (zr (some h.1))) := fr_pF (by simp) oz hz hv
  refine ⟨F.o oz, ?_, fun j q hj => ?_, fun k hk' => ?_⟩
  · rw [F.1.1, List.length_append]
    show h.1 + 1 = _
    simp only [List.length_cons, List.length_nil]
    omega
  · by_cases y : j < L.length
    · rw [List.getElem?_append_left y] at hj
      obtain ⟨q1, ⟨q2, q3⟩, q4⟩ := r j q hj
      have qf := hf q (List.mem_of_getElem? hj)
      refine ⟨by rw [F.gr (by simp [qf]), gR_zn (by omega)]; exact q1, ⟨fun z => ⟨F.ik (iK_zn (q2 z).1), fun i => by rw [F.i (by simp), aI_zn (by omega)]; exact (q2 z).2 i⟩, fun z => F.lk (Fz.lk (q3 z))⟩, by rw [F.n, aN_zn (by omega)]; exact q4⟩
    · obtain ⟨hl, -⟩ := List.getElem?_eq_some_iff.mp hj
      rw [List.length_append] at hl
      simp only [List.length_cons, List.length_nil] at hl
      have jl : j = L.length := by omega
      subst jl
      rw [List.getElem?_append_right (Nat.le_refl _), Nat.sub_self] at hj
      have hq : (f, t, n) = q := by simpa using hj
      subst hq
      have ec : 85 + L.length = h.1 := c.symm
      rw [ec]
      have aNz : aN (zn h e) h.1 = n := by
        unfold aN
        rw [zc]
        rcases he with ⟨-, rfl⟩ | ⟨-, rfl⟩ <;> rfl
      refine ⟨gR_pF_s oz hk, ⟨fun z => ?_, fun z => ?_⟩, by rw [F.n]; exact aNz⟩
      · rcases he with ⟨-, he⟩ | ⟨y3, -⟩
        · refine ⟨F.ik ⟨Nat.lt_succ_self _, n, fun _ => 0, zc.trans he⟩, fun i => ?_⟩
          rw [F.i (by simp)]
          unfold aI
          rw [zc, he]
        · exact absurd y3 z
      · rcases he with ⟨y3, -⟩ | ⟨-, he⟩
        · exact absurd z y3
        · exact F.lk ⟨Nat.lt_succ_self _, n, fun _ => 0, zc.trans he⟩
  · have kf : f ≠ k := hk' (f, t, n) (by simp)
    rw [gI_pF_n (Or.inr (Ne.symm kf)), gI_zn (by omega)]
    exact i k (fun q hq => hk' q (List.mem_append_left _ hq))
/-- an int field is written between -/
theorem mkI_i {x : Int32} {c0 : Nat} (A : mkI h L g) (hf : ∀ q, q ∈ L → q.1 ≠ f) (hz : (zkd 12)[f]? = some c0) (hv : zm c0 (.int x) = true) (hk : f < (zkd 12).length) : mkI (pF h 84 f (.int x)) L (fun k => if k = f then x else g k) := by
  obtain ⟨o, c, r, i⟩ := A
  have F : fr [] [(84, f)] h (pF h 84 f (.int x)) := fr_pF (by simp) o hz hv
  refine ⟨F.o o, by rw [F.1.1]; exact c, fun j q hj => ?_, fun k hk' => ?_⟩
  · obtain ⟨q1, ⟨q2, q3⟩, q4⟩ := r j q hj
    have qf := hf q (List.mem_of_getElem? hj)
    exact ⟨by rw [F.gr (by simp [qf])]; exact q1, ⟨fun z => ⟨F.ik (q2 z).1, fun i => by rw [F.i (by simp)]; exact (q2 z).2 i⟩, fun z => F.lk (q3 z)⟩, by rw [F.n]; exact q4⟩
  · show _ = if k = f then x else g k
    by_cases y : k = f
    · rw [if_pos y, y]; exact gI_pF_s o hk
    · rw [if_neg y, gI_pF_n (Or.inr y)]; exact i k hk'
end

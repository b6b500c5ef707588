/-! ===== frames where cells may be made: what was read below n stays, but of rows X and fields Y ===== -/
def fz (n : Nat) (X : List Nat) (Y : List (Nat × Nat)) (h h' : zH) : Prop :=
  (n ≤ h.1 ∧ h.1 ≤ h'.1 ∧ h.2.1 ≤ h'.2.1) ∧ (∀ k, k < n → k ∉ X → aI h' k = aI h k ∧ aL h' k = aL h k ∧ aR h' k = aR h k) ∧ (∀ k f, k < n → (k, f) ∉ Y → gF h' k f = gF h k f) ∧ (∀ k, k < h.1 → aN h' k = aN h k) ∧ (∀ k c, oK h k c → oK h' k c) ∧ (∀ k t, iK h k t → iK h' k t) ∧ (∀ k, lK h k → lK h' k) ∧ (∀ k t, rK h k t → rK h' k t)
theorem fz.rf {n : Nat} {X : List Nat} {Y : List (Nat × Nat)} {h : zH} (hn : n ≤ h.1) : fz n X Y h h := ⟨⟨hn, Nat.le_refl _, Nat.le_refl _⟩, fun _ _ _ => ⟨rfl, rfl, rfl⟩, fun _ _ _ _ => rfl, fun _ _ => rfl, fun _ _ z => z, fun _ _ z => z, fun _ z => z, fun _ _ z => z⟩
theorem fr.z {n : Nat} {X : List Nat} {Y : List (Nat × Nat)} {h h' : zH} (F : fr X Y h h') (hn : n ≤ h.1) : fz n X Y h h' := by
  obtain ⟨a1, a2, a3, a4, a5, a6, a7, a8⟩ := F
  exact ⟨⟨hn, by omega, by omega⟩, fun k _ hk => a2 k hk, fun k f _ hk => a3 k f hk, fun k _ => a4 k, a5, a6, a7, a8⟩
theorem fz.tr {n : Nat} {X : List Nat} {Y : List (Nat × Nat)} {h h1 h2 : zH} (a : fz n X Y h h1) (b : fz n X Y h1 h2) : fz n X Y h h2 := by
  obtain ⟨a1, a2, a3, a4, a5, a6, a7, a8⟩ := a
  obtain ⟨b1, b2, b3, b4, b5, b6, b7, b8⟩ := b
  refine ⟨⟨a1.1, by omega, by omega⟩, fun k hn hk => ?_, fun k f hn hk => (b3 k f hn hk).trans (a3 k f hn hk), fun k hn => (b4 k (by omega)).trans (a4 k hn), fun k c z => b5 k c (a5 k c z), fun k t z => b6 k t (a6 k t z), fun k z => b7 k (a7 k z), fun k t z => b8 k t (a8 k t z)⟩
  have p := a2 k hn hk
  have q := b2 k hn hk
  exact ⟨q.1.trans p.1, q.2.1.trans p.2.1, q.2.2.trans p.2.2⟩
theorem fz.mo {n n' : Nat} {X X' : List Nat} {Y Y' : List (Nat × Nat)} {h h' : zH} (hn : n' ≤ n) (hX : ∀ k, k < n' → k ∈ X → k ∈ X') (hY : ∀ k, k.1 < n' → k ∈ Y → k ∈ Y') (a : fz n X Y h h') : fz n' X' Y' h h' := by
  obtain ⟨a1, a2, a3, a4, a5⟩ := a
  exact ⟨⟨by omega, a1.2⟩, fun k hk hx => a2 k (by omega) (fun z => hx (hX k hk z)), fun k f hk hy => a3 k f (by omega) (fun z => hy (hY _ hk z)), a4, a5⟩
theorem fz_zn {n : Nat} {X : List Nat} {Y : List (Nat × Nat)} {h : zH} {e : zE} (hn : n ≤ h.1) : fz n X Y h (zn h e) :=
  ⟨⟨hn, Nat.le_succ _, Nat.le_add_right _ _⟩, fun k hk _ => have hb : k ≠ h.1 := by omega
    ⟨funext fun j => aI_zn hb, funext fun j => aL_zn hb, funext fun j => aR_zn hb⟩, fun k f hk _ => gF_zn (by omega), fun k hk => aN_zn (by omega), fun _ _ z => oK_zn z, fun _ _ z => iK_zn z, fun _ z => lK_zn z, fun _ _ z => rK_zn z⟩
theorem fz.i {n : Nat} {X : List Nat} {Y : List (Nat × Nat)} {h h' : zH} (a : fz n X Y h h') {k : Nat} (hn : k < n) (hk : k ∉ X) : aI h' k = aI h k := (a.2.1 k hn hk).1
theorem fz.l {n : Nat} {X : List Nat} {Y : List (Nat × Nat)} {h h' : zH} (a : fz n X Y h h') {k : Nat} (hn : k < n) (hk : k ∉ X) : aL h' k = aL h k := (a.2.1 k hn hk).2.1
theorem fz.r {n : Nat} {X : List Nat} {Y : List (Nat × Nat)} {h h' : zH} (a : fz n X Y h h') {k : Nat} (hn : k < n) (hk : k ∉ X) : aR h' k = aR h k := (a.2.1 k hn hk).2.2
theorem fz.f {n : Nat} {X : List Nat} {Y : List (Nat × Nat)} {h h' : zH} (a : fz n X Y h h') {k f : Nat} (hn : k < n) (hk : (k, f) ∉ Y) : gF h' k f = gF h k f := a.2.2.1 k f hn hk
theorem fz.gi {n : Nat} {X : List Nat} {Y : List (Nat × Nat)} {h h' : zH} (a : fz n X Y h h') {k f : Nat} (hn : k < n) (hk : (k, f) ∉ Y) : gI h' k f = gI h k f := by rw [gI, a.f hn hk, ← gI]
theorem fz.gl {n : Nat} {X : List Nat} {Y : List (Nat × Nat)} {h h' : zH} (a : fz n X Y h h') {k f : Nat} (hn : k < n) (hk : (k, f) ∉ Y) : gL h' k f = gL h k f := by rw [gL, a.f hn hk, ← gL]
theorem fz.gr {n : Nat} {X : List Nat} {Y : List (Nat × Nat)} {h h' : zH} (a : fz n X Y h h') {k f : Nat} (hn : k < n) (hk : (k, f) ∉ Y) : gR h' k f = gR h k f := by rw [gR, a.f hn hk, ← gR]
theorem fz.n {n : Nat} {X : List Nat} {Y : List (Nat × Nat)} {h h' : zH} (a : fz n X Y h h') {k : Nat} (hk : k < n) : aN h' k = aN h k := a.2.2.2.1 k (by have := a.1.1; omega)
theorem fz.o {n : Nat} {X : List Nat} {Y : List (Nat × Nat)} {h h' : zH} (a : fz n X Y h h') {k c : Nat} (z : oK h k c) : oK h' k c := a.2.2.2.2.1 k c z
theorem fz.ik {n : Nat} {X : List Nat} {Y : List (Nat × Nat)} {h h' : zH} (a : fz n X Y h h') {k c : Nat} (z : iK h k c) : iK h' k c := a.2.2.2.2.2.1 k c z
theorem fz.lk {n : Nat} {X : List Nat} {Y : List (Nat × Nat)} {h h' : zH} (a : fz n X Y h h') {k : Nat} (z : lK h k) : lK h' k := a.2.2.2.2.2.2.1 k z
theorem fz.rk {n : Nat} {X : List Nat} {Y : List (Nat × Nat)} {h h' : zH} (a : fz n X Y h h') {k c : Nat} (z : rK h k c) : rK h' k c := a.2.2.2.2.2.2.2 k c z
theorem zn_N {h : zH} {t n : Nat} {f : Nat → Int32} : aN (zn h (zI t n f)) h.1 = n := by
  unfold aN; rw [zn_at]
theorem zn_I {h : zH} {t n : Nat} {f : Nat → Int32} : aI (zn h (zI t n f)) h.1 = f := by
  funext i; unfold aI; rw [zn_at]

/-! ===== the rules, flat ===== -/
theorem pF_eq {h : zH} {a ci k : Nat} {fs : List Value} {v : Value} (hg : zg h a (zO ci fs)) : zs h a (zO ci (fs.set k v)) = pF h a k v := by
  simp only [zs, pF, hg.2]
theorem iK_at {h : zH} {a t : Nat} (ho : iK h a t) : zg h a (zI t (aN h a) (aI h a)) := by
  obtain ⟨h1, n, f, h2⟩ := ho
  refine ⟨h1, ?_⟩
  have e1 : aN h a = n := by simp only [aN, h2]
  have e2 : aI h a = f := by funext i; simp only [aI, h2]
  rw [e1, e2, h2]
theorem lK_at {h : zH} {a : Nat} (ho : lK h a) : zg h a (zL (aN h a) (aL h a)) := by
  obtain ⟨h1, n, f, h2⟩ := ho
  refine ⟨h1, ?_⟩
  have e1 : aN h a = n := by simp only [aN, h2]
  have e2 : aL h a = f := by funext i; simp only [aL, h2]
  rw [e1, e2, h2]
theorem rK_at {h : zH} {a t : Nat} (ho : rK h a t) : zg h a (zR t (aN h a) (aR h a)) := by
  obtain ⟨h1, n, f, h2⟩ := ho
  refine ⟨h1, ?_⟩
  have e1 : aN h a = n := by simp only [aN, h2]
  have e2 : aR h a = f := by funext i; simp only [aR, h2]
  rw [e1, e2, h2]
theorem pI_eq {h : zH} {a t i : Nat} {x : Int32} (ho : iK h a t) : zs h a (zI t (aN h a) (upd (aI h a) i x)) = pI h a i x := by
  have := (iK_at ho).2
  simp only [zs, pI, this]
theorem pL_eq {h : zH} {a i : Nat} {x : Int64} (ho : lK h a) : zs h a (zL (aN h a) (vp_updL (aL h a) i x)) = pL h a i x := by
  have := (lK_at ho).2
  simp only [zs, pL, this]
theorem pR_eq {h : zH} {a t i : Nat} {x : Option Nat} (ho : rK h a t) : zs h a (zR t (aN h a) (va_up (aR h a) i x)) = pR h a i x := by
  have := (rK_at ho).2
  simp only [zs, pR, this]
theorem zr_rf (o : Option Nat) : zrf (zr o) = true := by cases o <;> rfl
theorem zr_c (o : Option Nat) : (zr o).category = 1 := by cases o <;> rfl
theorem f_getI {G : zG} {M : zM} {mc ms : Nat} {κ : zK} {ck cn pc : Nat} {L st : List Value} {h : zH} (C : zCx G M mc ms κ) {a ix ci k : Nat} (hf : zFL M.1.cls ix ci k) (ho : oK h a ci) (hk : (zkd ci)[k]? = some 0) (hd : decode M.2.1 pc = .ok (.getfield ix, 3)) (kk : zW G M mc ms κ ck cn (pc + 3) L (.int (gI h a k) :: st) h) : zW G M mc ms κ ck cn pc L (.ref a :: st) h := by
  obtain ⟨fs, hg, hv, hm, -⟩ := oK_at ho hk
  rw [gI_v hm] at hv
  exact x_get C hf hg hv hd kk
theorem f_getL {G : zG} {M : zM} {mc ms : Nat} {κ : zK} {ck cn pc : Nat} {L st : List Value} {h : zH} (C : zCx G M mc ms κ) {a ix ci k : Nat} (hf : zFL M.1.cls ix ci k) (ho : oK h a ci) (hk : (zkd ci)[k]? = some 1) (hd : decode M.2.1 pc = .ok (.getfield ix, 3)) (kk : zW G M mc ms κ ck cn (pc + 3) L (.long (gL h a k) :: st) h) : zW G M mc ms κ ck cn pc L (.ref a :: st) h := by
  obtain ⟨fs, hg, hv, hm, -⟩ := oK_at ho hk
  rw [gL_v hm] at hv
  exact x_get C hf hg hv hd kk
theorem f_getR {G : zG} {M : zM} {mc ms : Nat} {κ : zK} {ck cn pc : Nat} {L st : List Value} {h : zH} (C : zCx G M mc ms κ) {a ix ci k : Nat} (hf : zFL M.1.cls ix ci k) (ho : oK h a ci) (hk : (zkd ci)[k]? = some 2) (hd : decode M.2.1 pc = .ok (.getfield ix, 3)) (kk : zW G M mc ms κ ck cn (pc + 3) L (zr (gR h a k) :: st) h) : zW G M mc ms κ ck cn pc L (.ref a :: st) h := by
  obtain ⟨fs, hg, hv, hm, -⟩ := oK_at ho hk
  rw [gR_v hm] at hv
  exact x_get C hf hg hv hd kk
theorem f_putI {G : zG} {M : zM} {mc ms : Nat} {κ : zK} {ck cn pc : Nat} {L st : List Value} {h : zH} (C : zCx G M mc ms κ) {a ix ci k : Nat} {x : Int32} {ty : Nat → FieldType} (hf : zFL M.1.cls ix ci k) (hcl : zCl ci ty) (hnf : zNF ci k false) (ho : oK h a ci) (hk : (zkd ci)[k]? = some 0) (hty : ty k = .int) (hd : decode M.2.1 pc = .ok (.putfield ix, 3)) (kk : zW G M mc ms κ ck cn (pc + 3) L st (pF h a k (.int x))) : zW G M mc ms κ ck cn pc L (.int x :: .ref a :: st) h := by
  obtain ⟨fs, hg, -, -, hl⟩ := oK_at ho hk
  exact x_put C hf hcl hnf hg hl (fun G => by rw [hty]; rfl) (fun G => by rw [hty]; rfl) hd (by rw [pF_eq hg]; exact kk)
theorem f_putZ {G : zG} {M : zM} {mc ms : Nat} {κ : zK} {ck cn pc : Nat} {L st : List Value} {h : zH} (C : zCx G M mc ms κ) {a ix ci k : Nat} {x : Int32} {ty : Nat → FieldType} (hf : zFL M.1.cls ix ci k) (hcl : zCl ci ty) (hnf : zNF ci k false) (ho : oK h a ci) (hk : (zkd ci)[k]? = some 0) (hty : ty k = .boolean) (hx : x = 0 ∨ x = 1) (hd : decode M.2.1 pc = .ok (.putfield ix, 3)) (kk : zW G M mc ms κ ck cn (pc + 3) L st (pF h a k (.int x))) : zW G M mc ms κ ck cn pc L (.int x :: .ref a :: st) h := by
  obtain ⟨fs, hg, -, -, hl⟩ := oK_at ho hk
  exact x_put C hf hcl hnf hg hl (fun G => by rw [hty]; rcases hx with rfl | rfl <;> rfl) (fun G => by rw [hty]; rcases hx with rfl | rfl <;> rfl) hd (by rw [pF_eq hg]; exact kk)
theorem f_putL {G : zG} {M : zM} {mc ms : Nat} {κ : zK} {ck cn pc : Nat} {L st : List Value} {h : zH} (C : zCx G M mc ms κ) {a ix ci k : Nat} {x : Int64} {ty : Nat → FieldType} (hf : zFL M.1.cls ix ci k) (hcl : zCl ci ty) (hnf : zNF ci k false) (ho : oK h a ci) (hk : (zkd ci)[k]? = some 1) (hty : ty k = .long) (hd : decode M.2.1 pc = .ok (.putfield ix, 3)) (kk : zW G M mc ms κ ck cn (pc + 3) L st (pF h a k (.long x))) : zW G M mc ms κ ck cn pc L (.long x :: .ref a :: st) h := by
  obtain ⟨fs, hg, -, -, hl⟩ := oK_at ho hk
  exact x_put C hf hcl hnf hg hl (fun G => by rw [hty]; rfl) (fun G => by rw [hty]; rfl) hd (by rw [pF_eq hg]; exact kk)
theorem f_putR {G : zG} {M : zM} {mc ms : Nat} {κ : zK} {ck cn pc : Nat} {L st : List Value} {h : zH} (C : zCx G M mc ms κ) {a ix ci k : Nat} {x : Option Nat} {ty : Nat → FieldType} (hf : zFL M.1.cls ix ci k) (hcl : zCl ci ty) (hnf : zNF ci k false) (ho : oK h a ci) (hk : (zkd ci)[k]? = some 2) (hty : (∃ n, ty k = .object n) ∨ ∃ t, ty k = .array t) (hd : decode M.2.1 pc = .ok (.putfield ix, 3)) (kk : zW G M mc ms κ ck cn (pc + 3) L st (pF h a k (zr x))) : zW G M mc ms κ ck cn pc L (zr x :: .ref a :: st) h := by
  obtain ⟨fs, hg, -, -, hl⟩ := oK_at ho hk
  exact x_put C hf hcl hnf hg hl (fun G => by rcases hty with ⟨n, e⟩ | ⟨t, e⟩ <;> rw [e] <;> cases x <;> rfl) (fun G => by rcases hty with ⟨n, e⟩ | ⟨t, e⟩ <;> rw [e] <;> cases x <;> rfl) hd (by rw [pF_eq hg]; exact kk)
theorem f_getIN {G : zG} {M : zM} {mc ms : Nat} {κ : zK} {ck cn pc : Nat} {L st : List Value} {h : zH} (C : zCx G M mc ms κ) {a ix ci k : Nat} (hf : zFLN M.1.cls ix ci k) (ho : oK h a ci) (hk : (zkd ci)[k]? = some 0) (hd : decode M.2.1 pc = .ok (.getfield ix, 3)) (kk : zW G M mc ms κ ck cn (pc + 3) L (.int (gI h a k) :: st) h) : zW G M mc ms κ ck cn pc L (.ref a :: st) h := by
  obtain ⟨fs, hg, hv, hm, -⟩ := oK_at ho hk
  rw [gI_v hm] at hv
  exact x_getN C hf hg hv hd kk
theorem f_getLN {G : zG} {M : zM} {mc ms : Nat} {κ : zK} {ck cn pc : Nat} {L st : List Value} {h : zH} (C : zCx G M mc ms κ) {a ix ci k : Nat} (hf : zFLN M.1.cls ix ci k) (ho : oK h a ci) (hk : (zkd ci)[k]? = some 1) (hd : decode M.2.1 pc = .ok (.getfield ix, 3)) (kk : zW G M mc ms κ ck cn (pc + 3) L (.long (gL h a k) :: st) h) : zW G M mc ms κ ck cn pc L (.ref a :: st) h := by
  obtain ⟨fs, hg, hv, hm, -⟩ := oK_at ho hk
  rw [gL_v hm] at hv
  exact x_getN C hf hg hv hd kk
theorem f_getRN {G : zG} {M : zM} {mc ms : Nat} {κ : zK} {ck cn pc : Nat} {L st : List Value} {h : zH} (C : zCx G M mc ms κ) {a ix ci k : Nat} (hf : zFLN M.1.cls ix ci k) (ho : oK h a ci) (hk : (zkd ci)[k]? = some 2) (hd : decode M.2.1 pc = .ok (.getfield ix, 3)) (kk : zW G M mc ms κ ck cn (pc + 3) L (zr (gR h a k) :: st) h) : zW G M mc ms κ ck cn pc L (.ref a :: st) h := by
  obtain ⟨fs, hg, hv, hm, -⟩ := oK_at ho hk
  rw [gR_v hm] at hv
  exact x_getN C hf hg hv hd kk
theorem f_putIN {G : zG} {M : zM} {mc ms : Nat} {κ : zK} {ck cn pc : Nat} {L st : List Value} {h : zH} (C : zCx G M mc ms κ) {a ix ci k : Nat} {x : Int32} {ty : Nat → FieldType} (hf : zFLN M.1.cls ix ci k) (hcl : zCl ci ty) (hnf : zNF ci k false) (ho : oK h a ci) (hk : (zkd ci)[k]? = some 0) (hty : ty k = .int) (hd : decode M.2.1 pc = .ok (.putfield ix, 3)) (kk : zW G M mc ms κ ck cn (pc + 3) L st (pF h a k (.int x))) : zW G M mc ms κ ck cn pc L (.int x :: .ref a :: st) h := by
  obtain ⟨fs, hg, -, -, hl⟩ := oK_at ho hk
  exact x_putN C hf hcl hnf hg hl (fun G => by rw [hty]; rfl) (fun G => by rw [hty]; rfl) hd (by rw [pF_eq hg]; exact kk)
theorem f_putZN {G : zG} {M : zM} {mc ms : Nat} {κ : zK} {ck cn pc : Nat} {L st : List Value} {h : zH} (C : zCx G M mc ms κ) {a ix ci k : Nat} {x : Int32} {ty : Nat → FieldType} (hf : zFLN M.1.cls ix ci k) (hcl : zCl ci ty) (hnf : zNF ci k false) (ho : oK h a ci) (hk : (zkd ci)[k]? = some 0) (hty : ty k = .boolean) (hx : x = 0 ∨ x = 1) (hd : decode M.2.1 pc = .ok (.putfield ix, 3)) (kk : zW G M mc ms κ ck cn (pc + 3) L st (pF h a k (.int x))) : zW G M mc ms κ ck cn pc L (.int x :: .ref a :: st) h := by
  obtain ⟨fs, hg, -, -, hl⟩ := oK_at ho hk
  exact x_putN C hf hcl hnf hg hl (fun G => by rw [hty]; rcases hx with rfl | rfl <;> rfl) (fun G => by rw [hty]; rcases hx with rfl | rfl <;> rfl) hd (by rw [pF_eq hg]; exact kk)
theorem f_putLN {G : zG} {M : zM} {mc ms : Nat} {κ : zK} {ck cn pc : Nat} {L st : List Value} {h : zH} (C : zCx G M mc ms κ) {a ix ci k : Nat} {x : Int64} {ty : Nat → FieldType} (hf : zFLN M.1.cls ix ci k) (hcl : zCl ci ty) (hnf : zNF ci k false) (ho : oK h a ci) (hk : (zkd ci)[k]? = some 1) (hty : ty k = .long) (hd : decode M.2.1 pc = .ok (.putfield ix, 3)) (kk : zW G M mc ms κ ck cn (pc + 3) L st (pF h a k (.long x))) : zW G M mc ms κ ck cn pc L (.long x :: .ref a :: st) h := by
  obtain ⟨fs, hg, -, -, hl⟩ := oK_at ho hk
  exact x_putN C hf hcl hnf hg hl (fun G => by rw [hty]; rfl) (fun G => by rw [hty]; rfl) hd (by rw [pF_eq hg]; exact kk)
theorem f_putRN {G : zG} {M : zM} {mc ms : Nat} {κ : zK} {ck cn pc : Nat} {L st : List Value} {h : zH} (C : zCx G M mc ms κ) {a ix ci k : Nat} {x : Option Nat} {ty : Nat → FieldType} (hf : zFLN M.1.cls ix ci k) (hcl : zCl ci ty) (hnf : zNF ci k false) (ho : oK h a ci) (hk : (zkd ci)[k]? = some 2) (hty : (∃ n, ty k = .object n) ∨ ∃ t, ty k = .array t) (hd : decode M.2.1 pc = .ok (.putfield ix, 3)) (kk : zW G M mc ms κ ck cn (pc + 3) L st (pF h a k (zr x))) : zW G M mc ms κ ck cn pc L (zr x :: .ref a :: st) h := by
  obtain ⟨fs, hg, -, -, hl⟩ := oK_at ho hk
  exact x_putN C hf hcl hnf hg hl (fun G => by rcases hty with ⟨n, e⟩ | ⟨t, e⟩ <;> rw [e] <;> cases x <;> rfl) (fun G => by rcases hty with ⟨n, e⟩ | ⟨t, e⟩ <;> rw [e] <;> cases x <;> rfl) hd (by rw [pF_eq hg]; exact kk)
theorem f_putFI {G : zG} {M : zM} {mc ms : Nat} {κ : zK} {ck cn pc : Nat} {L st : List Value} {h : zH} (C : zCx G M mc ms κ) {Qr : Option Value → zH → Prop} (Cr : zCr G M mc ms Qr κ) (hini : M.1.name = "<init>") {a ix ci k : Nat} {x : Int32} {ty : Nat → FieldType} (hf : zFL M.1.cls ix ci k) (hcl : zCl ci ty) (hnf : ∃ (C : String) (T : u_T) (N : Nat), vwCl[ci]? = some (C, T, N) ∧ (T k).2.2.2 = true ∧ (T k).1 = M.1.cls) (ho : oK h a ci) (hk : (zkd ci)[k]? = some 0) (hty : ty k = .int) (hd : decode M.2.1 pc = .ok (.putfield ix, 3)) (kk : zW G M mc ms κ ck cn (pc + 3) L st (pF h a k (.int x))) : zW G M mc ms κ ck cn pc L (.int x :: .ref a :: st) h := by
  obtain ⟨fs, hg, -, -, hl⟩ := oK_at ho hk
  exact x_putF C hini hf hcl hnf hg hl (fun G => by rw [hty]; rfl) (fun G => by rw [hty]; rfl) Cr hd (by rw [pF_eq hg]; exact kk)
theorem f_putFR {G : zG} {M : zM} {mc ms : Nat} {κ : zK} {ck cn pc : Nat} {L st : List Value} {h : zH} (C : zCx G M mc ms κ) {Qr : Option Value → zH → Prop} (Cr : zCr G M mc ms Qr κ) (hini : M.1.name = "<init>") {a ix ci k : Nat} {x : Option Nat} {ty : Nat → FieldType} (hf : zFL M.1.cls ix ci k) (hcl : zCl ci ty) (hnf : ∃ (C : String) (T : u_T) (N : Nat), vwCl[ci]? = some (C, T, N) ∧ (T k).2.2.2 = true ∧ (T k).1 = M.1.cls) (ho : oK h a ci) (hk : (zkd ci)[k]? = some 2) (hty : (∃ n, ty k = .object n) ∨ ∃ t, ty k = .array t) (hd : decode M.2.1 pc = .ok (.putfield ix, 3)) (kk : zW G M mc ms κ ck cn (pc + 3) L st (pF h a k (zr x))) : zW G M mc ms κ ck cn pc L (zr x :: .ref a :: st) h := by
  obtain ⟨fs, hg, -, -, hl⟩ := oK_at ho hk
  exact x_putF C hini hf hcl hnf hg hl (fun G => by rcases hty with ⟨n, e⟩ | ⟨t, e⟩ <;> rw [e] <;> cases x <;> rfl) (fun G => by rcases hty with ⟨n, e⟩ | ⟨t, e⟩ <;> rw [e] <;> cases x <;> rfl) Cr hd (by rw [pF_eq hg]; exact kk)
theorem f_iald {G : zG} {M : zM} {mc ms : Nat} {κ : zK} {ck cn pc : Nat} {L st : List Value} {h : zH} (C : zCx G M mc ms κ) {a : Nat} {i : Int32} (ho : iK h a 0) (hin : vp_in i (aN h a)) (hd : decode M.2.1 pc = .ok (.iaload, 1)) (kk : zW G M mc ms κ ck cn (pc + 1) L (.int (aI h a i.toNatClampNeg) :: st) h) : zW G M mc ms κ ck cn pc L (.int i :: .ref a :: st) h := x_iald C (iK_at ho) hin hd kk
theorem f_bald {G : zG} {M : zM} {mc ms : Nat} {κ : zK} {ck cn pc : Nat} {L st : List Value} {h : zH} (C : zCx G M mc ms κ) {a : Nat} {i : Int32} (ho : iK h a 1) (hin : vp_in i (aN h a)) (hd : decode M.2.1 pc = .ok (.baload, 1)) (kk : zW G M mc ms κ ck cn (pc + 1) L (.int (aI h a i.toNatClampNeg) :: st) h) : zW G M mc ms κ ck cn pc L (.int i :: .ref a :: st) h := x_bald C (iK_at ho) hin hd kk
theorem f_zald {G : zG} {M : zM} {mc ms : Nat} {κ : zK} {ck cn pc : Nat} {L st : List Value} {h : zH} (C : zCx G M mc ms κ) {a : Nat} {i : Int32} (ho : iK h a 2) (hin : vp_in i (aN h a)) (hd : decode M.2.1 pc = .ok (.baload, 1)) (kk : zW G M mc ms κ ck cn (pc + 1) L (.int (aI h a i.toNatClampNeg) :: st) h) : zW G M mc ms κ ck cn pc L (.int i :: .ref a :: st) h := x_zald C (iK_at ho) hin hd kk
theorem f_lald {G : zG} {M : zM} {mc ms : Nat} {κ : zK} {ck cn pc : Nat} {L st : List Value} {h : zH} (C : zCx G M mc ms κ) {a : Nat} {i : Int32} (ho : lK h a) (hin : vp_in i (aN h a)) (hd : decode M.2.1 pc = .ok (.laload, 1)) (kk : zW G M mc ms κ ck cn (pc + 1) L (.long (aL h a i.toNatClampNeg) :: st) h) : zW G M mc ms κ ck cn pc L (.int i :: .ref a :: st) h := x_lald C (lK_at ho) hin hd kk
theorem f_aald {G : zG} {M : zM} {mc ms : Nat} {κ : zK} {ck cn pc : Nat} {L st : List Value} {h : zH} (C : zCx G M mc ms κ) {a t : Nat} {i : Int32} (ht : t < 2) (ho : rK h a t) (hin : vp_in i (aN h a)) (hd : decode M.2.1 pc = .ok (.aaload, 1)) (kk : zW G M mc ms κ ck cn (pc + 1) L (zr (aR h a i.toNatClampNeg) :: st) h) : zW G M mc ms κ ck cn pc L (.int i :: .ref a :: st) h := x_aald C ht (rK_at ho) hin hd kk
theorem f_iast {G : zG} {M : zM} {mc ms : Nat} {κ : zK} {ck cn pc : Nat} {L st : List Value} {h : zH} (C : zCx G M mc ms κ) {a : Nat} {i x : Int32} (ho : iK h a 0) (hin : vp_in i (aN h a)) (hd : decode M.2.1 pc = .ok (.iastore, 1)) (kk : zW G M mc ms κ ck cn (pc + 1) L st (pI h a i.toNatClampNeg x)) : zW G M mc ms κ ck cn pc L (.int x :: .int i :: .ref a :: st) h := x_iast C (iK_at ho) hin hd (by rw [pI_eq ho]; exact kk)
theorem f_bast {G : zG} {M : zM} {mc ms : Nat} {κ : zK} {ck cn pc : Nat} {L st : List Value} {h : zH} (C : zCx G M mc ms κ) {a : Nat} {i x : Int32} (ho : iK h a 1) (hin : vp_in i (aN h a)) (hd : decode M.2.1 pc = .ok (.bastore, 1)) (kk : zW G M mc ms κ ck cn (pc + 1) L st (pI h a i.toNatClampNeg (vp_nar .byte x))) : zW G M mc ms κ ck cn pc L (.int x :: .int i :: .ref a :: st) h := x_bast C (iK_at ho) hin hd (by rw [pI_eq ho]; exact kk)
theorem f_zast {G : zG} {M : zM} {mc ms : Nat} {κ : zK} {ck cn pc : Nat} {L st : List Value} {h : zH} (C : zCx G M mc ms κ) {a : Nat} {i x : Int32} (ho : iK h a 2) (hin : vp_in i (aN h a)) (hd : decode M.2.1 pc = .ok (.bastore, 1)) (kk : zW G M mc ms κ ck cn (pc + 1) L st (pI h a i.toNatClampNeg (vp_nar .boolean x))) : zW G M mc ms κ ck cn pc L (.int x :: .int i :: .ref a :: st) h := x_zast C (iK_at ho) hin hd (by rw [pI_eq ho]; exact kk)
theorem f_last {G : zG} {M : zM} {mc ms : Nat} {κ : zK} {ck cn pc : Nat} {L st : List Value} {h : zH} (C : zCx G M mc ms κ) {a : Nat} {i : Int32} {x : Int64} (ho : lK h a) (hin : vp_in i (aN h a)) (hd : decode M.2.1 pc = .ok (.lastore, 1)) (kk : zW G M mc ms κ ck cn (pc + 1) L st (pL h a i.toNatClampNeg x)) : zW G M mc ms κ ck cn pc L (.long x :: .int i :: .ref a :: st) h := x_last C (lK_at ho) hin hd (by rw [pL_eq ho]; exact kk)
theorem f_aast {G : zG} {M : zM} {mc ms : Nat} {κ : zK} {ck cn pc : Nat} {L st : List Value} {h : zH} (C : zCx G M mc ms κ) {a t : Nat} {i : Int32} {x : Option Nat} (ht : t < 2) (ho : rK h a t) (hx : ∀ v, x = some v → oK h v t) (hin : vp_in i (aN h a)) (hd : decode M.2.1 pc = .ok (.aastore, 1)) (kk : zW G M mc ms κ ck cn (pc + 1) L st (pR h a i.toNatClampNeg x)) : zW G M mc ms κ ck cn pc L (zr x :: .int i :: .ref a :: st) h := by
  cases x with
  | none => exact x_aastN C ht (rK_at ho) hin hd (by rw [pR_eq ho]; exact kk)
  | some v =>
    obtain ⟨h1, fs, h2, h3⟩ := hx v rfl
    exact x_aast C ht (rK_at ho) ⟨h1, h2⟩ hin hd (by rw [pR_eq ho]; exact kk)
theorem f_alenI {G : zG} {M : zM} {mc ms : Nat} {κ : zK} {ck cn pc : Nat} {L st : List Value} {h : zH} (C : zCx G M mc ms κ) {a t : Nat} (ht : t < 3) (ho : iK h a t) (hd : decode M.2.1 pc = .ok (.arraylength, 1)) (kk : zW G M mc ms κ ck cn (pc + 1) L (.int (nI (aN h a)) :: st) h) : zW G M mc ms κ ck cn pc L (.ref a :: st) h := x_alenI C ht (iK_at ho) hd kk
theorem f_alenL {G : zG} {M : zM} {mc ms : Nat} {κ : zK} {ck cn pc : Nat} {L st : List Value} {h : zH} (C : zCx G M mc ms κ) {a : Nat} (ho : lK h a) (hd : decode M.2.1 pc = .ok (.arraylength, 1)) (kk : zW G M mc ms κ ck cn (pc + 1) L (.int (nI (aN h a)) :: st) h) : zW G M mc ms κ ck cn pc L (.ref a :: st) h := x_alenL C (lK_at ho) hd kk
theorem f_alenR {G : zG} {M : zM} {mc ms : Nat} {κ : zK} {ck cn pc : Nat} {L st : List Value} {h : zH} (C : zCx G M mc ms κ) {a t : Nat} (ht : t < 2) (ho : rK h a t) (hd : decode M.2.1 pc = .ok (.arraylength, 1)) (kk : zW G M mc ms κ ck cn (pc + 1) L (.int (nI (aN h a)) :: st) h) : zW G M mc ms κ ck cn pc L (.ref a :: st) h := x_alenR C ht (rK_at ho) hd kk
/-! ===== runs to a known end ===== -/
/-- from pc on, with these locals, stack and heap, method M comes to an end for which Q holds -/
def zX (M : zM) (pc : Nat) (L st : List Value) (h : zH) (Q : Option Value → zH → Prop) : Prop := ∃ (r : Option Value) (h' : zH), Q r h' ∧ h.1 ≤ h'.1 ∧ h.2.1 ≤ h'.2.1 ∧ ∀ (G : zG) (κ : zK) (n0 m0 : Nat), n0 ≤ h.1 → m0 ≤ h.2.1 → zCx G M (h'.1 - n0) (h'.2.1 - m0) κ → zCr G M (h'.1 - n0) (h'.2.1 - m0) (fun r2 h2 => r2 = r ∧ h2 = h') κ → (zK.s κ).heap.size = G.1 + n0 → zW G M (h'.1 - n0) (h'.2.1 - m0) κ (h.1 - n0) (h.2.1 - m0) pc L st h
/-- M called on as comes to an end for which Q holds -/
def zC (M : zM) (as : List Value) (h : zH) (Q : Option Value → zH → Prop) : Prop := ∃ (r : Option Value) (h' : zH), Q r h' ∧ h.1 ≤ h'.1 ∧ h.2.1 ≤ h'.2.1 ∧ zCn M as h (h'.1 - h.1) (h'.2.1 - h.2.1) (fun r2 h2 => r2 = r ∧ h2 = h')
theorem zC.mono {M : zM} {as : List Value} {h : zH} {Q Q' : Option Value → zH → Prop} (hc : zC M as h Q) (hq : ∀ r h', Q r h' → Q' r h') : zC M as h Q' := by
  obtain ⟨r, h', h1, h2⟩ := hc
  exact ⟨r, h', hq _ _ h1, h2⟩
theorem zX.mono {M : zM} {pc : Nat} {L st : List Value} {h : zH} {Q Q' : Option Value → zH → Prop} (hc : zX M pc L st h Q) (hq : ∀ r h', Q r h' → Q' r h') : zX M pc L st h Q' := by
  obtain ⟨r, h', h1, h2⟩ := hc
  exact ⟨r, h', hq _ _ h1, h2⟩
theorem zC_of {M : zM} {as : List Value} {h : zH} {Q : Option Value → zH → Prop} (hy : plainName M.1.cls = true) (hv : ∀ v ∈ as, v ≠ .float 0) (hl : ((as.map fun v => v.category).sum) ≤ M.2.2.1) (kk : zX M 0 (zen M.2.2.1 as) [] h Q) : zC M as h Q := by
  obtain ⟨r, h', h1, h2, h3, hw⟩ := kk
  refine ⟨r, h', h1, h2, h3, zCn_of hy hv hl fun G κ C Cr hs => ?_⟩
  have := hw G κ h.1 h.2.1 (Nat.le_refl _) (Nat.le_refl _) C Cr hs
  rwa [Nat.sub_self, Nat.sub_self] at this
/-- a stretch that makes nothing -/
theorem zX_seg {M : zM} {pc pc' : Nat} {L st L' st' : List Value} {h h2 : zH} {Q : Option Value → zH → Prop} (e1 : h2.1 = h.1) (e2 : h2.2.1 = h.2.1)
    (step : ∀ {G : zG} {κ : zK} {mc ms ck cn : Nat} {Qr : Option Value → zH → Prop}, zCx G M mc ms κ → zCr G M mc ms Qr κ → ck ≤ mc ∧ cn ≤ ms → zW G M mc ms κ ck cn pc' L' st' h2 → zW G M mc ms κ ck cn pc L st h) (kk : zX M pc' L' st' h2 Q) : zX M pc L st h Q := by
  obtain ⟨r, h', h1, g2, g3, hw⟩ := kk
  rw [e1] at g2
  rw [e2] at g3
  refine ⟨r, h', h1, g2, g3, fun G κ n0 m0 i1 i2 C Cr hs => step C Cr ⟨by omega, by omega⟩ ?_⟩
  have := hw G κ n0 m0 (by rw [e1]; exact i1) (by rw [e2]; exact i2) C Cr hs
  rw [e1, e2] at this
  exact this
theorem zX_br {M : zM} {pc p1 p2 : Nat} {L st st' : List Value} {h : zH} {Q : Option Value → zH → Prop} (c : Prop)
    (step : ∀ {G : zG} {κ : zK} {mc ms ck cn : Nat}, zCx G M mc ms κ → (c → zW G M mc ms κ ck cn p1 L st' h) → (¬ c → zW G M mc ms κ ck cn p2 L st' h) → zW G M mc ms κ ck cn pc L st h) (kt : c → zX M p1 L st' h Q) (kf : ¬ c → zX M p2 L st' h Q) : zX M pc L st h Q := by
  by_cases hc : c
  · obtain ⟨r, h', h1, g2, g3, hw⟩ := kt hc
    exact ⟨r, h', h1, g2, g3, fun G κ n0 m0 i1 i2 C Cr hs => step C (fun _ => hw G κ n0 m0 i1 i2 C Cr hs) (fun z => absurd hc z)⟩
  · obtain ⟨r, h', h1, g2, g3, hw⟩ := kf hc
    exact ⟨r, h', h1, g2, g3, fun G κ n0 m0 i1 i2 C Cr hs => step C (fun z => absurd z hc) (fun _ => hw G κ n0 m0 i1 i2 C Cr hs)⟩
theorem zX_new {M : zM} {pc pc' : Nat} {L st L' st' : List Value} {h : zH} {e : zE} {Q : Option Value → zH → Prop}
    (step : ∀ {G : zG} {κ : zK} {mc ms ck cn : Nat}, zCx G M mc ms κ → ck + 1 ≤ mc → cn + zsz e ≤ ms → zW G M mc ms κ (ck + 1) (cn + zsz e) pc' L' st' (zn h e) → zW G M mc ms κ ck cn pc L st h) (kk : zX M pc' L' st' (zn h e) Q) : zX M pc L st h Q := by
  obtain ⟨r, h', h1, g2, g3, hw⟩ := kk
  have e1 : (zn h e).1 = h.1 + 1 := rfl
  have e2 : (zn h e).2.1 = h.2.1 + zsz e := rfl
  refine ⟨r, h', h1, by omega, by omega, fun G κ n0 m0 i1 i2 C Cr hs => step C (by omega) (by omega) ?_⟩
  have := hw G κ n0 m0 (by omega) (by omega) C Cr hs
  rw [e1, e2, show h.1 + 1 - n0 = h.1 - n0 + 1 by omega, show h.2.1 + zsz e - m0 = h.2.1 - m0 + zsz e by omega] at this
  exact this
theorem zX_call {M M' : zM} {pc : Nat} {L st st0 as : List Value} {h : zH} {Q : Option Value → zH → Prop}
    (step : ∀ {G : zG} {κ : zK} {mc ms ck cn mc' ms' : Nat} {Q' : Option Value → zH → Prop}, zCx G M mc ms κ → zCn M' as h mc' ms' Q' → ck + mc' ≤ mc ∧ cn + ms' ≤ ms → (∀ (r : Option Value) (h' : zH), Q' r h' → zW G M mc ms κ (ck + mc') (cn + ms') (pc + 3) L (r.toList ++ st) h') → zW G M mc ms κ ck cn pc L st0 h) (kk : zC M' as h (fun r h' => zX M (pc + 3) L (r.toList ++ st) h' Q)) : zX M pc L st0 h Q := by
  obtain ⟨r1, h1, ⟨r, h', q1, g2, g3, hw⟩, j1, j2, hM⟩ := kk
  refine ⟨r, h', q1, by omega, by omega, fun G κ n0 m0 i1 i2 C Cr hs => step C hM (by omega) fun r2 h2 hq => ?_⟩
  obtain ⟨rfl, rfl⟩ := hq
  have := hw G κ n0 m0 (by omega) (by omega) C Cr hs
  rw [show h2.1 - n0 = h.1 - n0 + (h2.1 - h.1) by omega, show h2.2.1 - m0 = h.2.1 - m0 + (h2.2.1 - h.2.1) by omega] at this
  exact this
theorem zX_ret {M : zM} {pc : Nat} {L st : List Value} {h : zH} {Q : Option Value → zH → Prop} (r : Option Value)
    (step : ∀ {G : zG} {κ : zK} {mc ms ck cn : Nat}, zCx G M mc ms κ → zCr G M mc ms (fun r2 h2 => r2 = r ∧ h2 = h) κ → ck ≤ mc ∧ cn ≤ ms → zW G M mc ms κ ck cn pc L st h) (hq : Q r h) : zX M pc L st h Q :=
  ⟨r, h, hq, Nat.le_refl _, Nat.le_refl _, fun G κ n0 m0 i1 i2 C Cr hs => step C Cr ⟨Nat.le_refl _, Nat.le_refl _⟩⟩
theorem zX_weak {M : zM} {pc : Nat} {L L' st : List Value} {h : zH} {Q : Option Value → zH → Prop} (hL : ∀ (i : Nat) (v : Value), L'[i]? = some v → v ≠ .float 0 → L[i]? = some v) (kk : zX M pc L' st h Q) : zX M pc L st h Q :=
  zX_seg rfl rfl (fun _ _ _ k => x_weak hL k) kk
/-- a list of locals of which less is known, by places -/
def zwk : List Value → List Value → Bool
  | [], _ => true
  | v :: vs, w :: ws => (v == .float 0 || v == w) && zwk vs ws
  | v :: vs, [] => v == .float 0 && zwk vs []

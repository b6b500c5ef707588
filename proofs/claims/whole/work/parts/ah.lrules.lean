/-! ===== the law: links, rules ===== -/
theorem lL_9 : Cond.methodLink RL 9 yX11_init ∈ zbig := zin_1 25 (by decide +kernel) rfl
theorem lL_12 : Cond.methodLink RL 12 yX12_init ∈ zbig := zin_5 237 (by decide +kernel) rfl
theorem lL_13 : Cond.methodLink RL 13 yX11_feed ∈ zbig := zin_3 9 (by decide +kernel) rfl
theorem lL_17 : Cond.methodLink RL 17 yX12_feed ∈ zbig := zin_8 127 (by decide +kernel) rfl
theorem lL_18 : Cond.methodLink RL 18 yX11_end ∈ zbig := zin_3 20 (by decide +kernel) rfl
theorem lL_22 : Cond.methodLink RL 22 yX12_end ∈ zbig := zin_8 131 (by decide +kernel) rfl
theorem lL_23 : Cond.methodLink RL 23 yX11_roll ∈ zbig := zin_3 24 (by decide +kernel) rfl
theorem lL_27 : Cond.methodLink RL 27 yX12_roll ∈ zbig := zin_6 229 (by decide +kernel) rfl
theorem lL_28 : Cond.methodLink RL 28 yX11_reword ∈ zbig := zin_4 81 (by decide +kernel) rfl
theorem lL_31 : Cond.methodLink RL 31 yX12_reword ∈ zbig := zin_7 161 (by decide +kernel) rfl
theorem lL_32 : Cond.methodLink RL 32 yX11_fault ∈ zbig := zin_4 107 (by decide +kernel) rfl
theorem lL_35 : Cond.methodLink RL 35 yX12_fault ∈ zbig := zin_7 176 (by decide +kernel) rfl
theorem lL_36 : Cond.methodLink RL 36 yX11_countings ∈ zbig := zin_4 111 (by decide +kernel) rfl
theorem lL_39 : Cond.methodLink RL 39 yX12_countings ∈ zbig := zin_7 180 (by decide +kernel) rfl
theorem lL_40 : Cond.methodLink RL 40 yX11_counting ∈ zbig := zin_4 217 (by decide +kernel) rfl
theorem lL_44 : Cond.methodLink RL 44 yX12_counting ∈ zbig := zin_7 192 (by decide +kernel) rfl
theorem lL_45 : Cond.methodLink RL 45 yX11_chosen ∈ zbig := zin_4 227 (by decide +kernel) rfl
theorem lL_48 : Cond.methodLink RL 48 yX12_chosen ∈ zbig := zin_7 200 (by decide +kernel) rfl
theorem lL_49 : Cond.methodLink RL 49 yX11_wins ∈ zbig := zin_4 232 (by decide +kernel) rfl
theorem lL_52 : Cond.methodLink RL 52 yX12_wins ∈ zbig := zin_7 208 (by decide +kernel) rfl
theorem lL_53 : Cond.methodLink RL 53 yX11_says ∈ zbig := zin_5 0 (by decide +kernel) rfl
theorem lL_56 : Cond.methodLink RL 56 yX12_says ∈ zbig := zin_8 3 (by decide +kernel) rfl
theorem lL_57 : Cond.methodLink RL 57 yX11_looks ∈ zbig := zin_5 5 (by decide +kernel) rfl
theorem lL_60 : Cond.methodLink RL 60 yX12_looks ∈ zbig := zin_7 216 (by decide +kernel) rfl
theorem lL_61 : Cond.methodLink RL 61 yX11_part ∈ zbig := zin_5 10 (by decide +kernel) rfl
theorem lL_64 : Cond.methodLink RL 64 yX12_part ∈ zbig := zin_7 228 (by decide +kernel) rfl
theorem lL_65 : Cond.methodLink RL 65 yX11_telling ∈ zbig := zin_5 18 (by decide +kernel) rfl
theorem lL_68 : Cond.methodLink RL 68 yX12_telling ∈ zbig := zin_7 236 (by decide +kernel) rfl
theorem lL_69 : Cond.methodLink RL 69 yX11_mark ∈ zbig := zin_5 26 (by decide +kernel) rfl
theorem lL_73 : Cond.methodLink RL 73 yX12_mark ∈ zbig := zin_8 22 (by decide +kernel) rfl
theorem lL_74 : Cond.methodLink RL 74 yX11_open ∈ zbig := zin_5 35 (by decide +kernel) rfl
theorem lL_77 : Cond.methodLink RL 77 yX12_open ∈ zbig := zin_8 26 (by decide +kernel) rfl
theorem lL_78 : Cond.methodLink RL 78 yX11_has ∈ zbig := zin_5 39 (by decide +kernel) rfl
theorem lL_81 : Cond.methodLink RL 81 yX12_has ∈ zbig := zin_8 30 (by decide +kernel) rfl
theorem lL_82 : Cond.methodLink RL 82 yX11_judge ∈ zbig := zin_5 43 (by decide +kernel) rfl
theorem lL_85 : Cond.methodLink RL 85 yX12_judge ∈ zbig := zin_8 34 (by decide +kernel) rfl
theorem lL_86 : Cond.methodLink RL 86 yX11_rest ∈ zbig := zin_5 53 (by decide +kernel) rfl
theorem lL_89 : Cond.methodLink RL 89 yX12_rest ∈ zbig := zin_8 38 (by decide +kernel) rfl
theorem lL_90 : Cond.methodLink RL 90 yX11_soonest ∈ zbig := zin_5 68 (by decide +kernel) rfl
theorem lL_93 : Cond.methodLink RL 93 yX12_soonest ∈ zbig := zin_8 50 (by decide +kernel) rfl
theorem lL_94 : Cond.methodLink RL 94 yX11_sway ∈ zbig := zin_5 89 (by decide +kernel) rfl
theorem lL_97 : Cond.methodLink RL 97 yX12_sway ∈ zbig := zin_8 62 (by decide +kernel) rfl
theorem lL_98 : Cond.methodLink RL 98 yX11_more ∈ zbig := zin_5 122 (by decide +kernel) rfl
theorem lL_101 : Cond.methodLink RL 101 yX12_more ∈ zbig := zin_8 73 (by decide +kernel) rfl
theorem lL_102 : Cond.methodLink RL 102 yX11_shown ∈ zbig := zin_5 132 (by decide +kernel) rfl
theorem lL_106 : Cond.methodLink RL 106 yX12_shown ∈ zbig := zin_8 77 (by decide +kernel) rfl
theorem lL_107 : Cond.methodLink RL 107 yX11_hand ∈ zbig := zin_5 165 (by decide +kernel) rfl
theorem lL_110 : Cond.methodLink RL 110 yX12_hand ∈ zbig := zin_8 90 (by decide +kernel) rfl
theorem lL_111 : Cond.methodLink RL 111 yX11_untell ∈ zbig := zin_5 174 (by decide +kernel) rfl
theorem lL_115 : Cond.methodLink RL 115 yX12_untell ∈ zbig := zin_8 94 (by decide +kernel) rfl
theorem lL_116 : Cond.methodLink RL 116 yX11_later ∈ zbig := zin_5 183 (by decide +kernel) rfl
theorem lL_119 : Cond.methodLink RL 119 yX12_later ∈ zbig := zin_8 98 (by decide +kernel) rfl
theorem lL_120 : Cond.methodLink RL 120 yX11_left ∈ zbig := zin_5 188 (by decide +kernel) rfl
theorem lL_123 : Cond.methodLink RL 123 yX12_left ∈ zbig := zin_8 103 (by decide +kernel) rfl
theorem lL_124 : Cond.methodLink RL 124 yX11_sure ∈ zbig := zin_5 206 (by decide +kernel) rfl
theorem lL_127 : Cond.methodLink RL 127 yX12_sure ∈ zbig := zin_8 111 (by decide +kernel) rfl
theorem lL_128 : Cond.methodLink RL 128 yX11_image ∈ zbig := zin_5 210 (by decide +kernel) rfl
theorem lL_131 : Cond.methodLink RL 131 yX12_image ∈ zbig := zin_8 115 (by decide +kernel) rfl
theorem lL_132 : Cond.methodLink RL 132 yX11_back ∈ zbig := zin_5 222 (by decide +kernel) rfl
theorem lL_135 : Cond.methodLink RL 135 yX12_back ∈ zbig := zin_8 119 (by decide +kernel) rfl
theorem lL_136 : Cond.methodLink RL 136 yX11_about ∈ zbig := zin_5 230 (by decide +kernel) rfl
theorem lL_139 : Cond.methodLink RL 139 yX12_about ∈ zbig := zin_8 123 (by decide +kernel) rfl
abbrev mL : zM := (⟨RL, "law", "([I)Z"⟩, (code, (4, (ret, (14, 548)))))
section
variable {G : zG} {κ : zK} {h : zH} {L st st0 as : List Value} {pc ix n a ci N nn b : Nat} {xs : Nat → Int32} {T : u_T} {M' : zM} {x i : Int32} {P c : Nat} {w : zSt}
abbrev lW (G : zG) (κ : zK) (pc : Nat) (L st : List Value) (h : zH) : Prop := zW G mL 600000 7302250 κ h.1 h.2.1 pc L st h
/-- the script stands in outer cell 0 -/
def lX (G : zG) (κ : zK) (n : Nat) (xs : Nat → Int32) : Prop := va_X (G.2.2.2 0) n xs (zK.s κ) (zK.s κ).heap ∧ G.2.2.2 0 < (zK.s κ).heap.size ∧ G.1 = (zK.s κ).heap.size
def lB (h : zH) : Prop := h.1 ≤ 600000 ∧ h.2.1 ≤ 7302250
theorem f_sld (C : zCx G mL 600000 7302250 κ) (X : lX G κ nn xs) (hin : vp_in i nn) (hd : decode code pc = .ok (.iaload, 1)) (kk : lW G κ (pc + 1) L (.int (xs i.toNatClampNeg) :: st) h) : lW G κ pc L (.int i :: .retAddr 0 :: st) h := by
  obtain ⟨p, l, e, s, m, args, below, meth, c, Q⟩ := κ
  obtain ⟨hx, hb, hml, hown, hts, hF, hG⟩ := C
  obtain ⟨X1, X2, X3⟩ := X
  intro H locs ls hsim hS hls
  exact va_sld hx hb X1 X2 (by show ¬ G.1 ≤ _; rw [X3]; exact Nat.not_le.mpr X2) hS hin hd (kk H locs ls hsim hS hls)
theorem f_slen (C : zCx G mL 600000 7302250 κ) (X : lX G κ nn xs) (hd : decode code pc = .ok (.arraylength, 1)) (kk : lW G κ (pc + 1) L (.int (nI nn) :: st) h) : lW G κ pc L (.retAddr 0 :: st) h := by
  obtain ⟨p, l, e, s, m, args, below, meth, c, Q⟩ := κ
  obtain ⟨hx, hb, hml, hown, hts, hF, hG⟩ := C
  obtain ⟨X1, X2, X3⟩ := X
  intro H locs ls hsim hS hls
  exact va_slen hx hb X1 X2 (by show ¬ G.1 ≤ _; rw [X3]; exact Nat.not_le.mpr X2) hS hd (kk H locs ls hsim hS hls)
theorem l_call (C : zCx G mL 600000 7302250 κ) (hk : zMk M' n) (hv : zMv M') (hl : Cond.methodLink RL ix M'.1 ∈ zbig) (hR : zRm mL M') (hc : vwCl[ci]? = some (M'.1.cls, T, N)) (ho : oK h a ci) (hn : as.length = n) (hst : (st.map fun v => v.category).sum ≤ 8) (e0 : st0 = as.reverse ++ .ref a :: st) (hd : decode code pc = .ok (.invokevirtual ix, 3)) (kk : zC M' (.ref a :: as) h (fun r h' => lB h' ∧ lW G κ (pc + 3) L (r.toList ++ st) h')) : lW G κ pc L st0 h := by
  obtain ⟨r1, h1, ⟨⟨b1, b2⟩, q1⟩, j1, j2, hM⟩ := kk
  refine f_callV C as hM hk hv hl hR hc ho hn ⟨by omega, by omega⟩ hst e0 hd (fun r2 h2 hq => ?_)
  obtain ⟨rfl, rfl⟩ := hq
  rw [show h.1 + (h2.1 - h.1) = h2.1 by omega, show h.2.1 + (h2.2.1 - h.2.1) = h2.2.1 by omega]
  exact q1
theorem l_callI (C : zCx G mL 600000 7302250 κ) (hk : zMk M' n) (hin : Cond.instanceMethod M'.1 ∈ zbig) (hy : M'.1.name = "<init>" ∧ M'.2.2.2.1 = none) (hl : Cond.methodLink RL ix M'.1 ∈ zbig) (hR : zRm mL M') (hn : as.length = n) (hst : (st.map fun v => v.category).sum ≤ 8) (e0 : st0 = as.reverse ++ .ref a :: st) (hd : decode code pc = .ok (.invokespecial ix, 3)) (kk : zC M' (.ref a :: as) h (fun r h' => lB h' ∧ lW G κ (pc + 3) L (r.toList ++ st) h')) : lW G κ pc L st0 h := by
  obtain ⟨r1, h1, ⟨⟨b1, b2⟩, q1⟩, j1, j2, hM⟩ := kk
  refine x_callI C as hM hk hin hy hl hR hn ⟨by omega, by omega⟩ hst e0 hd (fun r2 h2 hq => ?_)
  obtain ⟨rfl, rfl⟩ := hq
  rw [show h.1 + (h2.1 - h.1) = h2.1 by omega, show h.2.1 + (h2.2.1 - h.2.1) = h2.2.1 by omega]
  exact q1
/-- the law's locals -/
abbrev lL (x : Int32) : List Value := [.retAddr 0, .ref 0, .ref 84, .int x]
theorem lB_R (A : cR h w P c) (hP : P ≤ 300000) (hc : c ≤ 200) : lB h := by
  obtain ⟨-, t, t2, o, bo, sc, tc, nc, -, ⟨⟨-, ⟨-, -, -, k, hk, e1⟩, ⟨-, -, -, e2⟩, ⟨-, -, -, e3⟩, -⟩, -⟩, z1, z2⟩ := A
  have e4 : 4 ^ k ≤ 4 ^ 8 := Nat.pow_le_pow_right (by decide) hk
  exact ⟨by omega, by omega⟩
theorem cR_o (A : cR h w P c) : oK h 0 11 := by
  obtain ⟨-, t, t2, o, bo, sc, tc, nc, F, -⟩ := A
  exact F.1.2.2.1.1
theorem mR_o (A : mR h w) : oK h 84 12 := by
  obtain ⟨-, b, B⟩ := A
  exact B.1.1.1.o
/-- both answer the same -/
theorem l_step {a : Int32} {w' : zSt} {c' : Nat} {M1 M2 : zM} {K : zH → Prop} (B : mR h w) (H1 : ∀ Q : Option Value → zH → Prop, (∀ h', fk h h' → cR h' w' P c' → Q (some (.int a)) h') → zC M1 (.ref 0 :: as) h Q) (H2 : ∀ h', mR h' w → ∀ Q : Option Value → zH → Prop, (∀ h2, mk2 h' h2 → mR h2 w' → Q (some (.int a)) h2) → zC M2 (.ref 84 :: as) h' Q) (hP : P ≤ 300000) (hc : c' ≤ 200) (k : ∀ h2, cR h2 w' P c' → mR h2 w' → K h2) :
    zC M1 (.ref 0 :: as) h (fun r h' => ∃ a, r = some (.int a) ∧ (lB h' ∧ oK h' 84 12) ∧ zC M2 (.ref 84 :: as) h' (fun r2 h2 => r2 = some (.int a) ∧ lB h2 ∧ K h2)) :=
  H1 _ (fun h' F C' => ⟨a, rfl, ⟨lB_R C' hP hc, mR_o (mR_fk B F)⟩, H2 h' (mR_fk B F) _ (fun h2 F2 B2 => ⟨rfl, lB_R (cR_mk2 C' F2) hP hc, k h2 (cR_mk2 C' F2) B2⟩)⟩)
end

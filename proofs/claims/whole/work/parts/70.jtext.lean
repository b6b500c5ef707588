/-! ===== JDK: texts (length, indexOf); the row of bindings ===== -/
theorem dJ0_length_8abf5_0 : decode cJ0_length_8abf5 0 = .ok (.aload_n 0, 1) := by decide +kernel
theorem dJ0_length_8abf5_1 : decode cJ0_length_8abf5 1 = .ok (.getfield 9, 3) := by decide +kernel
theorem dJ0_length_8abf5_4 : decode cJ0_length_8abf5 4 = .ok (.arraylength, 1) := by decide +kernel
theorem dJ0_length_8abf5_5 : decode cJ0_length_8abf5 5 = .ok (.aload_n 0, 1) := by decide +kernel
theorem dJ0_length_8abf5_6 : decode cJ0_length_8abf5 6 = .ok (.invokevirtual 335, 3) := by decide +kernel
theorem dJ0_length_8abf5_9 : decode cJ0_length_8abf5 9 = .ok (.ishr, 1) := by decide +kernel
theorem dJ0_length_8abf5_10 : decode cJ0_length_8abf5 10 = .ok (.ireturn, 1) := by decide +kernel
theorem dJ0_coder_7d493_0 : decode cJ0_coder_7d493 0 = .ok (.getstatic 38, 3) := by decide +kernel
theorem dJ0_coder_7d493_3 : decode cJ0_coder_7d493 3 = .ok (.ifCond .eq 10, 3) := by decide +kernel
theorem dJ0_coder_7d493_6 : decode cJ0_coder_7d493 6 = .ok (.aload_n 0, 1) := by decide +kernel
theorem dJ0_coder_7d493_7 : decode cJ0_coder_7d493 7 = .ok (.getfield 15, 3) := by decide +kernel
theorem dJ0_coder_7d493_10 : decode cJ0_coder_7d493 10 = .ok (.goto 4, 3) := by decide +kernel
theorem dJ0_coder_7d493_13 : decode cJ0_coder_7d493 13 = .ok (.iconst 1, 1) := by decide +kernel
theorem dJ0_coder_7d493_14 : decode cJ0_coder_7d493 14 = .ok (.ireturn, 1) := by decide +kernel
theorem dJ0_isLatin1_aae02_0 : decode cJ0_isLatin1_aae02 0 = .ok (.getstatic 38, 3) := by decide +kernel
theorem dJ0_isLatin1_aae02_3 : decode cJ0_isLatin1_aae02 3 = .ok (.ifCond .eq 14, 3) := by decide +kernel
theorem dJ0_isLatin1_aae02_6 : decode cJ0_isLatin1_aae02 6 = .ok (.aload_n 0, 1) := by decide +kernel
theorem dJ0_isLatin1_aae02_7 : decode cJ0_isLatin1_aae02 7 = .ok (.getfield 15, 3) := by decide +kernel
theorem dJ0_isLatin1_aae02_10 : decode cJ0_isLatin1_aae02 10 = .ok (.ifCond .ne 7, 3) := by decide +kernel
theorem dJ0_isLatin1_aae02_13 : decode cJ0_isLatin1_aae02 13 = .ok (.iconst 1, 1) := by decide +kernel
theorem dJ0_isLatin1_aae02_14 : decode cJ0_isLatin1_aae02 14 = .ok (.goto 4, 3) := by decide +kernel
theorem dJ0_isLatin1_aae02_17 : decode cJ0_isLatin1_aae02 17 = .ok (.iconst 0, 1) := by decide +kernel
theorem dJ0_isLatin1_aae02_18 : decode cJ0_isLatin1_aae02 18 = .ok (.ireturn, 1) := by decide +kernel
theorem dJ0_indexOf_0f7a4_0 : decode cJ0_indexOf_0f7a4 0 = .ok (.aload_n 0, 1) := by decide +kernel
theorem dJ0_indexOf_0f7a4_1 : decode cJ0_indexOf_0f7a4 1 = .ok (.iload_n 1, 1) := by decide +kernel
theorem dJ0_indexOf_0f7a4_2 : decode cJ0_indexOf_0f7a4 2 = .ok (.iconst 0, 1) := by decide +kernel
theorem dJ0_indexOf_0f7a4_3 : decode cJ0_indexOf_0f7a4 3 = .ok (.invokevirtual 633, 3) := by decide +kernel
theorem dJ0_indexOf_0f7a4_6 : decode cJ0_indexOf_0f7a4 6 = .ok (.ireturn, 1) := by decide +kernel
theorem dJ0_indexOf_7cf53_0 : decode cJ0_indexOf_7cf53 0 = .ok (.aload_n 0, 1) := by decide +kernel
theorem dJ0_indexOf_7cf53_1 : decode cJ0_indexOf_7cf53 1 = .ok (.invokevirtual 492, 3) := by decide +kernel
theorem dJ0_indexOf_7cf53_4 : decode cJ0_indexOf_7cf53 4 = .ok (.ifCond .eq 19, 3) := by decide +kernel
theorem dJ0_indexOf_7cf53_7 : decode cJ0_indexOf_7cf53 7 = .ok (.aload_n 0, 1) := by decide +kernel
theorem dJ0_indexOf_7cf53_8 : decode cJ0_indexOf_7cf53 8 = .ok (.getfield 9, 3) := by decide +kernel
theorem dJ0_indexOf_7cf53_11 : decode cJ0_indexOf_7cf53 11 = .ok (.iload_n 1, 1) := by decide +kernel
theorem dJ0_indexOf_7cf53_12 : decode cJ0_indexOf_7cf53 12 = .ok (.iload_n 2, 1) := by decide +kernel
theorem dJ0_indexOf_7cf53_13 : decode cJ0_indexOf_7cf53 13 = .ok (.aload_n 0, 1) := by decide +kernel
theorem dJ0_indexOf_7cf53_14 : decode cJ0_indexOf_7cf53 14 = .ok (.invokevirtual 505, 3) := by decide +kernel
theorem dJ0_indexOf_7cf53_17 : decode cJ0_indexOf_7cf53 17 = .ok (.invokestatic 637, 3) := by decide +kernel
theorem dJ0_indexOf_7cf53_20 : decode cJ0_indexOf_7cf53 20 = .ok (.goto 16, 3) := by decide +kernel
theorem dJ0_indexOf_7cf53_23 : decode cJ0_indexOf_7cf53 23 = .ok (.aload_n 0, 1) := by decide +kernel
theorem dJ0_indexOf_7cf53_24 : decode cJ0_indexOf_7cf53 24 = .ok (.getfield 9, 3) := by decide +kernel
theorem dJ0_indexOf_7cf53_27 : decode cJ0_indexOf_7cf53 27 = .ok (.iload_n 1, 1) := by decide +kernel
theorem dJ0_indexOf_7cf53_28 : decode cJ0_indexOf_7cf53 28 = .ok (.iload_n 2, 1) := by decide +kernel
theorem dJ0_indexOf_7cf53_29 : decode cJ0_indexOf_7cf53 29 = .ok (.aload_n 0, 1) := by decide +kernel
theorem dJ0_indexOf_7cf53_30 : decode cJ0_indexOf_7cf53 30 = .ok (.invokevirtual 505, 3) := by decide +kernel
theorem dJ0_indexOf_7cf53_33 : decode cJ0_indexOf_7cf53 33 = .ok (.invokestatic 640, 3) := by decide +kernel
theorem dJ0_indexOf_7cf53_36 : decode cJ0_indexOf_7cf53 36 = .ok (.ireturn, 1) := by decide +kernel
theorem dJ1_indexOf_4cfef_0 : decode cJ1_indexOf_4cfef 0 = .ok (.iload_n 1, 1) := by decide +kernel
theorem dJ1_indexOf_4cfef_1 : decode cJ1_indexOf_4cfef 1 = .ok (.invokestatic 88, 3) := by decide +kernel
theorem dJ1_indexOf_4cfef_4 : decode cJ1_indexOf_4cfef 4 = .ok (.ifCond .ne 5, 3) := by decide +kernel
theorem dJ1_indexOf_4cfef_7 : decode cJ1_indexOf_4cfef 7 = .ok (.iconst (-1), 1) := by decide +kernel
theorem dJ1_indexOf_4cfef_8 : decode cJ1_indexOf_4cfef 8 = .ok (.ireturn, 1) := by decide +kernel
theorem dJ1_indexOf_4cfef_9 : decode cJ1_indexOf_4cfef 9 = .ok (.iload_n 2, 1) := by decide +kernel
theorem dJ1_indexOf_4cfef_10 : decode cJ1_indexOf_4cfef 10 = .ok (.iconst 0, 1) := by decide +kernel
theorem dJ1_indexOf_4cfef_11 : decode cJ1_indexOf_4cfef 11 = .ok (.invokestatic 92, 3) := by decide +kernel
theorem dJ1_indexOf_4cfef_14 : decode cJ1_indexOf_4cfef 14 = .ok (.istore_n 2, 1) := by decide +kernel
theorem dJ1_indexOf_4cfef_15 : decode cJ1_indexOf_4cfef 15 = .ok (.iload_n 3, 1) := by decide +kernel
theorem dJ1_indexOf_4cfef_16 : decode cJ1_indexOf_4cfef 16 = .ok (.aload_n 0, 1) := by decide +kernel
theorem dJ1_indexOf_4cfef_17 : decode cJ1_indexOf_4cfef 17 = .ok (.arraylength, 1) := by decide +kernel
theorem dJ1_indexOf_4cfef_18 : decode cJ1_indexOf_4cfef 18 = .ok (.invokestatic 38, 3) := by decide +kernel
theorem dJ1_indexOf_4cfef_21 : decode cJ1_indexOf_4cfef 21 = .ok (.istore_n 3, 1) := by decide +kernel
theorem dJ1_indexOf_4cfef_22 : decode cJ1_indexOf_4cfef 22 = .ok (.iload_n 2, 1) := by decide +kernel
theorem dJ1_indexOf_4cfef_23 : decode cJ1_indexOf_4cfef 23 = .ok (.iload_n 3, 1) := by decide +kernel
theorem dJ1_indexOf_4cfef_24 : decode cJ1_indexOf_4cfef 24 = .ok (.if_icmp .lt 5, 3) := by decide +kernel
theorem dJ1_indexOf_4cfef_27 : decode cJ1_indexOf_4cfef 27 = .ok (.iconst (-1), 1) := by decide +kernel
theorem dJ1_indexOf_4cfef_28 : decode cJ1_indexOf_4cfef 28 = .ok (.ireturn, 1) := by decide +kernel
theorem dJ1_indexOf_4cfef_29 : decode cJ1_indexOf_4cfef 29 = .ok (.aload_n 0, 1) := by decide +kernel
theorem dJ1_indexOf_4cfef_30 : decode cJ1_indexOf_4cfef 30 = .ok (.iload_n 1, 1) := by decide +kernel
theorem dJ1_indexOf_4cfef_31 : decode cJ1_indexOf_4cfef 31 = .ok (.iload_n 2, 1) := by decide +kernel
theorem dJ1_indexOf_4cfef_32 : decode cJ1_indexOf_4cfef 32 = .ok (.iload_n 3, 1) := by decide +kernel
theorem dJ1_indexOf_4cfef_33 : decode cJ1_indexOf_4cfef 33 = .ok (.invokestatic 95, 3) := by decide +kernel
theorem dJ1_indexOf_4cfef_36 : decode cJ1_indexOf_4cfef 36 = .ok (.ireturn, 1) := by decide +kernel
theorem dJ1_canEncode_9a6ad_0 : decode cJ1_canEncode_9a6ad 0 = .ok (.iload_n 0, 1) := by decide +kernel
theorem dJ1_canEncode_9a6ad_1 : decode cJ1_canEncode_9a6ad 1 = .ok (.ifCond .lt 14, 3) := by decide +kernel
theorem dJ1_canEncode_9a6ad_4 : decode cJ1_canEncode_9a6ad 4 = .ok (.iload_n 0, 1) := by decide +kernel
theorem dJ1_canEncode_9a6ad_5 : decode cJ1_canEncode_9a6ad 5 = .ok (.sipush 255, 3) := by decide +kernel
theorem dJ1_canEncode_9a6ad_8 : decode cJ1_canEncode_9a6ad 8 = .ok (.if_icmp .gt 7, 3) := by decide +kernel
theorem dJ1_canEncode_9a6ad_11 : decode cJ1_canEncode_9a6ad 11 = .ok (.iconst 1, 1) := by decide +kernel
theorem dJ1_canEncode_9a6ad_12 : decode cJ1_canEncode_9a6ad 12 = .ok (.goto 4, 3) := by decide +kernel
theorem dJ1_canEncode_9a6ad_15 : decode cJ1_canEncode_9a6ad 15 = .ok (.iconst 0, 1) := by decide +kernel
theorem dJ1_canEncode_9a6ad_16 : decode cJ1_canEncode_9a6ad 16 = .ok (.ireturn, 1) := by decide +kernel
theorem dJ1_indexOfChar_4cfef_0 : decode cJ1_indexOfChar_4cfef 0 = .ok (.iload_n 1, 1) := by decide +kernel
theorem dJ1_indexOfChar_4cfef_1 : decode cJ1_indexOfChar_4cfef 1 = .ok (.i2b, 1) := by decide +kernel
theorem dJ1_indexOfChar_4cfef_2 : decode cJ1_indexOfChar_4cfef 2 = .ok (.istore 4, 2) := by decide +kernel
theorem dJ1_indexOfChar_4cfef_4 : decode cJ1_indexOfChar_4cfef 4 = .ok (.iload_n 2, 1) := by decide +kernel
theorem dJ1_indexOfChar_4cfef_5 : decode cJ1_indexOfChar_4cfef 5 = .ok (.istore 5, 2) := by decide +kernel
theorem dJ1_indexOfChar_4cfef_7 : decode cJ1_indexOfChar_4cfef 7 = .ok (.iload 5, 2) := by decide +kernel
theorem dJ1_indexOfChar_4cfef_9 : decode cJ1_indexOfChar_4cfef 9 = .ok (.iload_n 3, 1) := by decide +kernel
theorem dJ1_indexOfChar_4cfef_10 : decode cJ1_indexOfChar_4cfef 10 = .ok (.if_icmp .ge 21, 3) := by decide +kernel
theorem dJ1_indexOfChar_4cfef_13 : decode cJ1_indexOfChar_4cfef 13 = .ok (.aload_n 0, 1) := by decide +kernel
theorem dJ1_indexOfChar_4cfef_14 : decode cJ1_indexOfChar_4cfef 14 = .ok (.iload 5, 2) := by decide +kernel
theorem dJ1_indexOfChar_4cfef_16 : decode cJ1_indexOfChar_4cfef 16 = .ok (.baload, 1) := by decide +kernel
theorem dJ1_indexOfChar_4cfef_17 : decode cJ1_indexOfChar_4cfef 17 = .ok (.iload 4, 2) := by decide +kernel
theorem dJ1_indexOfChar_4cfef_19 : decode cJ1_indexOfChar_4cfef 19 = .ok (.if_icmp .ne 6, 3) := by decide +kernel
theorem dJ1_indexOfChar_4cfef_22 : decode cJ1_indexOfChar_4cfef 22 = .ok (.iload 5, 2) := by decide +kernel
theorem dJ1_indexOfChar_4cfef_24 : decode cJ1_indexOfChar_4cfef 24 = .ok (.ireturn, 1) := by decide +kernel
theorem dJ1_indexOfChar_4cfef_25 : decode cJ1_indexOfChar_4cfef 25 = .ok (.iinc 5 1, 3) := by decide +kernel
theorem dJ1_indexOfChar_4cfef_28 : decode cJ1_indexOfChar_4cfef 28 = .ok (.goto (-21), 3) := by decide +kernel
theorem dJ1_indexOfChar_4cfef_31 : decode cJ1_indexOfChar_4cfef 31 = .ok (.iconst (-1), 1) := by decide +kernel
theorem dJ1_indexOfChar_4cfef_32 : decode cJ1_indexOfChar_4cfef 32 = .ok (.ireturn, 1) := by decide +kernel
theorem lfJ0_9 : Cond.fieldLink RJ0 9 "java/lang/String" "value" "[B" ∈ zbig := zin_8 135 (by decide +kernel) rfl
theorem lfJ0_38 : Cond.fieldLink RJ0 38 "java/lang/String" "COMPACT_STRINGS" "Z" ∈ zbig := zin_1 52 (by decide +kernel) rfl
theorem lfJ0_15 : Cond.fieldLink RJ0 15 "java/lang/String" "coder" "B" ∈ zbig := zin_8 136 (by decide +kernel) rfl
section
variable {h : zH} {Q : Option Value → zH → Prop} {i : Nat}
theorem sJ_isLatin1 (hi : i < 2) (H : Q (some (.int 1)) h) : zC mJ0_isLatin1_aae02 [.retAddr (2 + i)] h Q := by
  refine zC_of (by decide +kernel) (by simp) (Nat.le_of_ble_eq_true rfl) ?_
  refine zX_seg (pc' := 18) (L' := [.retAddr (2 + i)]) (st' := [.int 1]) (h2 := h) rfl rfl (fun C Cr hc kk => f_xtcs C lfJ0_38 dJ0_isLatin1_aae02_0 (x_if_eq C 17 dJ0_isLatin1_aae02_3 (by decide) (fun q => absurd q (by decide +kernel)) (fun _ => x_aload_n C (v := .retAddr (2 + i)) rfl rfl dJ0_isLatin1_aae02_6 (f_xtcod C hi lfJ0_15 dJ0_isLatin1_aae02_7 (x_if_ne C 17 dJ0_isLatin1_aae02_10 (by decide) (fun q => absurd rfl q) (fun _ => x_iconst C (1 : Int32) (by decide) dJ0_isLatin1_aae02_13 (x_goto C 18 dJ0_isLatin1_aae02_14 (by decide) kk))))))) ?_
  exact zX_ret (some (.int 1)) (fun C Cr hc => x_iret C Cr rfl rfl hc dJ0_isLatin1_aae02_18 ⟨rfl, rfl⟩) H
theorem sJ_coder (hi : i < 2) (H : Q (some (.int 0)) h) : zC mJ0_coder_7d493 [.retAddr (2 + i)] h Q := by
  refine zC_of (by decide +kernel) (by simp) (Nat.le_of_ble_eq_true rfl) ?_
  refine zX_seg (pc' := 14) (L' := [.retAddr (2 + i)]) (st' := [.int 0]) (h2 := h) rfl rfl (fun C Cr hc kk => f_xtcs C lfJ0_38 dJ0_coder_7d493_0 (x_if_eq C 13 dJ0_coder_7d493_3 (by decide) (fun q => absurd q (by decide +kernel)) (fun _ => x_aload_n C (v := .retAddr (2 + i)) rfl rfl dJ0_coder_7d493_6 (f_xtcod C hi lfJ0_15 dJ0_coder_7d493_7 (x_goto C 14 dJ0_coder_7d493_10 (by decide) kk))))) ?_
  exact zX_ret (some (.int 0)) (fun C Cr hc => x_iret C Cr rfl rfl hc dJ0_coder_7d493_14 ⟨rfl, rfl⟩) H
theorem sJ_length (hi : i < 2) (H : Q (some (.int (nI (zlen.getD i 0)))) h) : zC mJ0_length_8abf5 [.retAddr (2 + i)] h Q := by
  refine zC_of (by decide +kernel) (by simp) (Nat.le_of_ble_eq_true rfl) ?_
  refine zX_seg (pc' := 6) (L' := [.retAddr (2 + i)]) (st' := [.retAddr (2 + i), .int (nI (zlen.getD i 0))]) (h2 := h) rfl rfl (fun C Cr hc kk => x_aload_n C (v := .retAddr (2 + i)) rfl rfl dJ0_length_8abf5_0 (f_xtval C hi lfJ0_9 dJ0_length_8abf5_1 (f_xtlen C hi dJ0_length_8abf5_4 (x_aload_n C (v := .retAddr (2 + i)) rfl rfl dJ0_length_8abf5_5 kk)))) ?_
  refine zX_call (as := [.retAddr (2 + i)]) (st := [.int (nI (zlen.getD i 0))]) (fun C hM hc kk => f_callX (i := i) C [] hM kJ0_coder_7d493 vJ0_coder_7d493 lJ0_335 ⟨by decide, by decide⟩ ⟨hi, rfl⟩ rfl hc (Nat.le_of_ble_eq_true rfl) rfl dJ0_length_8abf5_6 kk) (sJ_coder hi ?_)
  show zX mJ0_length_8abf5 9 [.retAddr (2 + i)] [.int 0, .int (nI (zlen.getD i 0))] h Q
  refine zX_seg (pc' := 10) (L' := [.retAddr (2 + i)]) (st' := [.int (nI (zlen.getD i 0) >>> ((0 : Int32) &&& 31))]) (h2 := h) rfl rfl (fun C Cr hc kk => x_ishr C dJ0_length_8abf5_9 kk) ?_
  have e : nI (zlen.getD i 0) >>> ((0 : Int32) &&& 31) = nI (zlen.getD i 0) := by
    have : i = 0 ∨ i = 1 := by omega
    rcases this with rfl | rfl <;> decide +kernel
  rw [e]
  exact zX_ret _ (fun C Cr hc => x_iret C Cr rfl rfl hc dJ0_length_8abf5_10 ⟨rfl, rfl⟩) H
theorem sJ_canEncode {c : Nat} (hc : c < 256) (H : Q (some (.int 1)) h) : zC mJ1_canEncode_9a6ad [.int (nI c)] h Q := by
  refine zC_of (by decide +kernel) (by simp) (Nat.le_of_ble_eq_true rfl) ?_
  refine zX_seg (pc' := 16) (L' := [.int (nI c)]) (st' := [.int 1]) (h2 := h) rfl rfl (fun C Cr _ kk => x_iload_n C rfl dJ1_canEncode_9a6ad_0 (x_if_lt C 15 dJ1_canEncode_9a6ad_1 (by decide) (fun q => absurd q (nI_pos (by omega))) (fun _ => x_iload_n C rfl dJ1_canEncode_9a6ad_4 (x_sipush C (255 : Int32) (by decide) dJ1_canEncode_9a6ad_5 (x_icmp_gt C 15 dJ1_canEncode_9a6ad_8 (by decide) (fun q => absurd q (by rw [nI_lit 255, nI_ltI (by decide) (by omega)]; omega)) (fun _ => x_iconst C (1 : Int32) (by decide) dJ1_canEncode_9a6ad_11 (x_goto C 16 dJ1_canEncode_9a6ad_12 (by decide) kk))))))) ?_
  exact zX_ret (some (.int 1)) (fun C Cr hc => x_iret C Cr rfl rfl hc dJ1_canEncode_9a6ad_16 ⟨rfl, rfl⟩) H
theorem sg_eq : ∀ c, c < 256 → ∀ k, k < 8 → (((zbyt.getD 1 []).getD k 0 = (nI c).toInt8.toInt32) ↔ sgL.getD k 0 = c) := by decide +kernel
theorem sg_at : ∀ k, k < 8 → sgx (sgL.getD k 0) = k := by decide +kernel
theorem sJ_indexOfChar {c : Nat} (hc : c < 256) (H1 : sgx c < 8 → Q (some (.int (nI (sgx c)))) h) (H0 : ¬ sgx c < 8 → Q (some (.int (-1))) h) : zC mJ1_indexOfChar_4cfef [.retAddr 5, .int (nI c), .int 0, .int (nI 8)] h Q := by
  refine zC_of (by decide +kernel) (by simp) (Nat.le_of_ble_eq_true rfl) ?_
  have go : ∀ d k, k + d = 8 → (∀ j, j < k → sgL.getD j 0 ≠ c) → zX mJ1_indexOfChar_4cfef 7 [.retAddr 5, .int (nI c), .int 0, .int (nI 8), .int (nI c).toInt8.toInt32, .int (nI k)] [] h Q := by
    intro d
    induction d with
    | zero =>
      intro k hk ne
      have : k = 8 := by omega
      subst this
      refine zX_seg (pc' := 32) (L' := [.retAddr 5, .int (nI c), .int 0, .int (nI 8), .int (nI c).toInt8.toInt32, .int (nI 8)]) (st' := [.int (-1)]) (h2 := h) rfl rfl (fun C Cr hc kk => x_iload C rfl dJ1_indexOfChar_4cfef_7 (x_iload_n C rfl dJ1_indexOfChar_4cfef_9 (x_icmp_ge C 31 dJ1_indexOfChar_4cfef_10 (by decide) (fun _ => x_iconst C (-1 : Int32) (by decide) dJ1_indexOfChar_4cfef_31 kk) (fun q => absurd (nI_le (Nat.le_refl _) (by decide)) q)))) ?_
      exact zX_ret (some (.int (-1))) (fun C Cr hc => x_iret C Cr rfl rfl hc dJ1_indexOfChar_4cfef_32 ⟨rfl, rfl⟩) (H0 (sgx_no (fun g hg => ne g hg)))
    | succ d ih =>
      intro k hk ne
      have ci : (nI k).toNatClampNeg = k := nI_clamp (by omega)
      refine zX_seg (pc' := 19) (L' := [.retAddr 5, .int (nI c), .int 0, .int (nI 8), .int (nI c).toInt8.toInt32, .int (nI k)]) (st' := [.int (nI c).toInt8.toInt32, .int ((zbyt.getD 1 []).getD (nI k).toNatClampNeg 0)]) (h2 := h) rfl rfl (fun C Cr hc kk => x_iload C rfl dJ1_indexOfChar_4cfef_7 (x_iload_n C rfl dJ1_indexOfChar_4cfef_9 (x_icmp_ge C 31 dJ1_indexOfChar_4cfef_10 (by decide) (fun q => absurd q (nI_ge (by omega) (by decide))) (fun _ => x_aload_n C (v := .retAddr 5) rfl rfl dJ1_indexOfChar_4cfef_13 (x_iload C rfl dJ1_indexOfChar_4cfef_14 (f_xtald C (i := 1) (by decide) (vp_in_nI (n := k) (N := 8) (by omega) (by decide)) dJ1_indexOfChar_4cfef_16 (x_iload C rfl dJ1_indexOfChar_4cfef_17 kk))))))) ?_
      rw [ci]
      have e := sg_eq c hc k (by omega)
      refine zX_br (p1 := 22) (p2 := 25) (st' := []) ((zbyt.getD 1 []).getD k 0 = (nI c).toInt8.toInt32) (fun C kt kf => x_icmp_ne C 25 dJ1_indexOfChar_4cfef_19 (by decide) kf kt) (fun q => ?_) (fun q => ?_)
      · have w := e.mp q
        have s1 := sg_at k (by omega)
        rw [w] at s1
        refine zX_seg (pc' := 24) (L' := [.retAddr 5, .int (nI c), .int 0, .int (nI 8), .int (nI c).toInt8.toInt32, .int (nI k)]) (st' := [.int (nI k)]) (h2 := h) rfl rfl (fun C Cr hc kk => x_iload C rfl dJ1_indexOfChar_4cfef_22 kk) ?_
        exact zX_ret (some (.int (nI k))) (fun C Cr hc => x_iret C Cr rfl rfl hc dJ1_indexOfChar_4cfef_24 ⟨rfl, rfl⟩) (by rw [← s1]; exact H1 (by omega))
      · refine zX_seg (pc' := 7) (L' := [.retAddr 5, .int (nI c), .int 0, .int (nI 8), .int (nI c).toInt8.toInt32, .int (nI k + 1)]) (st' := []) (h2 := h) rfl rfl (fun C Cr hc kk => x_iinc C (nI k + 1) rfl (congrArg (HAdd.hAdd _) (by decide)) (by decide) dJ1_indexOfChar_4cfef_25 (x_goto C 7 dJ1_indexOfChar_4cfef_28 (by decide) kk)) ?_
        rw [nI_1]
        refine ih (k + 1) (by omega) (fun j hj => ?_)
        by_cases z : j = k
        · rw [z]; exact fun w => q (e.mpr w)
        · exact ne j (by omega)
  refine zX_seg (pc' := 7) (L' := [.retAddr 5, .int (nI c), .int 0, .int (nI 8), .int (nI c).toInt8.toInt32, .int 0]) (st' := []) (h2 := h) rfl rfl (fun C Cr hc kk => x_iload_n C rfl dJ1_indexOfChar_4cfef_0 (x_i2b C dJ1_indexOfChar_4cfef_1 (x_istore C (by decide) dJ1_indexOfChar_4cfef_2 (x_iload_n C rfl dJ1_indexOfChar_4cfef_4 (x_istore C (by decide) dJ1_indexOfChar_4cfef_5 kk))))) ?_
  exact go 8 0 rfl (fun j hj => absurd hj (Nat.not_lt_zero _))
theorem sJ1_indexOf {c : Nat} (hc : c < 256) (H1 : sgx c < 8 → Q (some (.int (nI (sgx c)))) h) (H0 : ¬ sgx c < 8 → Q (some (.int (-1))) h) : zC mJ1_indexOf_4cfef [.retAddr 5, .int (nI c), .int 0, .int (nI 8)] h Q := by
  refine zC_of (by decide +kernel) (by simp) (Nat.le_of_ble_eq_true rfl) ?_
  refine zX_seg (pc' := 1) (L' := [.retAddr 5, .int (nI c), .int 0, .int (nI 8)]) (st' := [.int (nI c)]) (h2 := h) rfl rfl (fun C Cr hc kk => x_iload_n C rfl dJ1_indexOf_4cfef_0 kk) ?_
  refine zX_call (as := [.int (nI c)]) (st := []) (fun C hM hc kk => x_callS C [.int (nI c)] hM kJ1_canEncode_9a6ad sJ1_canEncode_9a6ad lJ1_88 ⟨by decide, by decide⟩ rfl hc (Nat.le_of_ble_eq_true rfl) rfl dJ1_indexOf_4cfef_1 kk) (sJ_canEncode hc ?_)
  show zX mJ1_indexOf_4cfef 4 [.retAddr 5, .int (nI c), .int 0, .int (nI 8)] [.int 1] h Q
  refine zX_seg (pc' := 22) (L' := [.retAddr 5, .int (nI c), .int (if (0 : Int32) < 0 then 0 else 0), .int (if nI (zlen.getD 1 0) < nI 8 then nI (zlen.getD 1 0) else nI 8)]) (st' := []) (h2 := h) rfl rfl (fun C Cr hc kk => x_if_ne C 9 dJ1_indexOf_4cfef_4 (by decide) (fun _ => x_iload_n C rfl dJ1_indexOf_4cfef_9 (x_iconst C (0 : Int32) (by decide) dJ1_indexOf_4cfef_10 (f_mmax C lJ1_92 mm_max_s mm_i mm_max_c ⟨by decide, by decide⟩ hc (Nat.le_of_ble_eq_true rfl) dJ1_indexOf_4cfef_11 (x_istore_n C (by decide) dJ1_indexOf_4cfef_14 (x_iload_n C rfl dJ1_indexOf_4cfef_15 (x_aload_n C (v := .retAddr 5) rfl rfl dJ1_indexOf_4cfef_16 (f_xtlen C (i := 1) (by decide) dJ1_indexOf_4cfef_17 (f_mmin C lJ1_38 mm_min_s mm_i mm_min_c ⟨by decide, by decide⟩ hc (Nat.le_of_ble_eq_true rfl) dJ1_indexOf_4cfef_18 (x_istore_n C (by decide) dJ1_indexOf_4cfef_21 kk))))))))) (fun q => absurd q (by decide +kernel))) ?_
  rw [if_neg (by decide +kernel), if_neg (by decide +kernel)]
  refine zX_seg (pc' := 33) (L' := [.retAddr 5, .int (nI c), .int 0, .int (nI 8)]) (st' := [.int (nI 8), .int 0, .int (nI c), .retAddr 5]) (h2 := h) rfl rfl (fun C Cr hc kk => x_iload_n C rfl dJ1_indexOf_4cfef_22 (x_iload_n C rfl dJ1_indexOf_4cfef_23 (x_icmp_lt C 29 dJ1_indexOf_4cfef_24 (by decide) (fun _ => x_aload_n C (v := .retAddr 5) rfl rfl dJ1_indexOf_4cfef_29 (x_iload_n C rfl dJ1_indexOf_4cfef_30 (x_iload_n C rfl dJ1_indexOf_4cfef_31 (x_iload_n C rfl dJ1_indexOf_4cfef_32 kk)))) (fun q => absurd (by decide +kernel) q)))) ?_
  refine zX_call (as := [.retAddr 5, .int (nI c), .int 0, .int (nI 8)]) (st := []) (fun C hM hc kk => x_callS C [.retAddr 5, .int (nI c), .int 0, .int (nI 8)] hM kJ1_indexOfChar_4cfef sJ1_indexOfChar_4cfef lJ1_95 ⟨by decide, by decide⟩ rfl hc (Nat.le_of_ble_eq_true rfl) rfl dJ1_indexOf_4cfef_33 kk) (sJ_indexOfChar hc (fun w => ?_) (fun w => ?_))
  · exact zX_ret (some (.int (nI (sgx c)))) (fun C Cr hc => x_iret C Cr rfl rfl hc dJ1_indexOf_4cfef_36 ⟨rfl, rfl⟩) (H1 w)
  · exact zX_ret (some (.int (-1))) (fun C Cr hc => x_iret C Cr rfl rfl hc dJ1_indexOf_4cfef_36 ⟨rfl, rfl⟩) (H0 w)
theorem sJ0_indexOf2 {c : Nat} (hc : c < 256) (H1 : sgx c < 8 → Q (some (.int (nI (sgx c)))) h) (H0 : ¬ sgx c < 8 → Q (some (.int (-1))) h) : zC mJ0_indexOf_7cf53 [.retAddr 3, .int (nI c), .int 0] h Q := by
  refine zC_of (by decide +kernel) (by simp) (Nat.le_of_ble_eq_true rfl) ?_
  refine zX_seg (pc' := 1) (L' := [.retAddr 3, .int (nI c), .int 0]) (st' := [.retAddr 3]) (h2 := h) rfl rfl (fun C Cr hc kk => x_aload_n C (v := .retAddr 3) rfl rfl dJ0_indexOf_7cf53_0 kk) ?_
  refine zX_call (as := [.retAddr 3]) (st := []) (fun C hM hc kk => f_callX (i := 1) C [] hM kJ0_isLatin1_aae02 vJ0_isLatin1_aae02 lJ0_492 ⟨by decide, by decide⟩ ⟨by decide, rfl⟩ rfl hc (Nat.le_of_ble_eq_true rfl) rfl dJ0_indexOf_7cf53_1 kk) (sJ_isLatin1 (i := 1) (by decide) ?_)
  show zX mJ0_indexOf_7cf53 4 [.retAddr 3, .int (nI c), .int 0] [.int 1] h Q
  refine zX_seg (pc' := 14) (L' := [.retAddr 3, .int (nI c), .int 0]) (st' := [.retAddr 3, .int 0, .int (nI c), .retAddr 5]) (h2 := h) rfl rfl (fun C Cr hc kk => x_if_eq C 23 dJ0_indexOf_7cf53_4 (by decide) (fun q => absurd q (by decide +kernel)) (fun _ => x_aload_n C (v := .retAddr 3) rfl rfl dJ0_indexOf_7cf53_7 (f_xtval C (i := 1) (by decide) lfJ0_9 dJ0_indexOf_7cf53_8 (x_iload_n C rfl dJ0_indexOf_7cf53_11 (x_iload_n C rfl dJ0_indexOf_7cf53_12 (x_aload_n C (v := .retAddr 3) rfl rfl dJ0_indexOf_7cf53_13 kk)))))) ?_
  refine zX_call (as := [.retAddr 3]) (st := [.int 0, .int (nI c), .retAddr 5]) (fun C hM hc kk => f_callX (i := 1) C [] hM kJ0_length_8abf5 vJ0_length_8abf5 lJ0_505 ⟨by decide, by decide⟩ ⟨by decide, rfl⟩ rfl hc (Nat.le_of_ble_eq_true rfl) rfl dJ0_indexOf_7cf53_14 kk) (sJ_length (i := 1) (by decide) ?_)
  show zX mJ0_indexOf_7cf53 17 [.retAddr 3, .int (nI c), .int 0] [.int (nI 8), .int 0, .int (nI c), .retAddr 5] h Q
  refine zX_call (as := [.retAddr 5, .int (nI c), .int 0, .int (nI 8)]) (st := []) (fun C hM hc kk => x_callS C [.retAddr 5, .int (nI c), .int 0, .int (nI 8)] hM kJ1_indexOf_4cfef sJ1_indexOf_4cfef lJ0_637 ⟨by decide, by decide⟩ rfl hc (Nat.le_of_ble_eq_true rfl) rfl dJ0_indexOf_7cf53_17 kk) (sJ1_indexOf hc (fun w => ?_) (fun w => ?_))
  · refine zX_seg (pc' := 36) (L' := [.retAddr 3, .int (nI c), .int 0]) (st' := [.int (nI (sgx c))]) (h2 := h) rfl rfl (fun C Cr hc kk => x_goto C 36 dJ0_indexOf_7cf53_20 (by decide) kk) ?_
    exact zX_ret (some (.int (nI (sgx c)))) (fun C Cr hc => x_iret C Cr rfl rfl hc dJ0_indexOf_7cf53_36 ⟨rfl, rfl⟩) (H1 w)
  · refine zX_seg (pc' := 36) (L' := [.retAddr 3, .int (nI c), .int 0]) (st' := [.int (-1)]) (h2 := h) rfl rfl (fun C Cr hc kk => x_goto C 36 dJ0_indexOf_7cf53_20 (by decide) kk) ?_
    exact zX_ret (some (.int (-1))) (fun C Cr hc => x_iret C Cr rfl rfl hc dJ0_indexOf_7cf53_36 ⟨rfl, rfl⟩) (H0 w)
theorem sJ0_indexOf {c : Nat} (hc : c < 256) (H1 : sgx c < 8 → Q (some (.int (nI (sgx c)))) h) (H0 : ¬ sgx c < 8 → Q (some (.int (-1))) h) : zC mJ0_indexOf_0f7a4 [.retAddr 3, .int (nI c)] h Q := by
  refine zC_of (by decide +kernel) (by simp) (Nat.le_of_ble_eq_true rfl) ?_
  refine zX_seg (pc' := 3) (L' := [.retAddr 3, .int (nI c)]) (st' := [.int 0, .int (nI c), .retAddr 3]) (h2 := h) rfl rfl (fun C Cr hc kk => x_aload_n C (v := .retAddr 3) rfl rfl dJ0_indexOf_0f7a4_0 (x_iload_n C rfl dJ0_indexOf_0f7a4_1 (x_iconst C (0 : Int32) (by decide) dJ0_indexOf_0f7a4_2 kk))) ?_
  refine zX_call (as := [.retAddr 3, .int (nI c), .int 0]) (st := []) (fun C hM hc kk => f_callX (i := 1) C [.int (nI c), .int 0] hM kJ0_indexOf_7cf53 vJ0_indexOf_7cf53 lJ0_633 ⟨by decide, by decide⟩ ⟨by decide, rfl⟩ rfl hc (Nat.le_of_ble_eq_true rfl) rfl dJ0_indexOf_0f7a4_3 kk) (sJ0_indexOf2 hc (fun w => ?_) (fun w => ?_))
  · exact zX_ret (some (.int (nI (sgx c)))) (fun C Cr hc => x_iret C Cr rfl rfl hc dJ0_indexOf_0f7a4_6 ⟨rfl, rfl⟩) (H1 w)
  · exact zX_ret (some (.int (-1))) (fun C Cr hc => x_iret C Cr rfl rfl hc dJ0_indexOf_0f7a4_6 ⟨rfl, rfl⟩) (H0 w)
/-- how tightly a sign binds -/
theorem s11_atB {x : Int32} (H : ∀ y, (∀ k, k < 12 → x = nI k → y = zbind k) → Q (some (.int y)) h) : zC mX11_at [.retAddr 1, .int x] h Q := by
  refine zC_of (by decide +kernel) (by simp) (Nat.le_of_ble_eq_true rfl) ?_
  have z0 : (x < 0 ∨ (12 : Int32) ≤ x) → Q (some (.int 0)) h := fun w => H 0 (fun k hk e => by
    exfalso
    rw [e] at w
    rcases w with w | w
    · exact nI_pos (by omega) w
    · rw [nI_lit 12, nI_leI (by decide) (by omega)] at w; omega)
  by_cases w1 : x < 0
  · refine zX_seg (pc' := 17) (L' := [.retAddr 1, .int x]) (st' := [.int 0]) (h2 := h) rfl rfl (fun C Cr hc kk => x_iload_n C rfl dX11_at_0 (x_if_lt C 16 dX11_at_1 (by decide) (fun _ => x_iconst C (0 : Int32) (by decide) dX11_at_16 kk) (fun q => absurd w1 q))) ?_
    exact zX_ret (some (.int 0)) (fun C Cr hc => x_iret C Cr rfl rfl hc dX11_at_17 ⟨rfl, rfl⟩) (z0 (Or.inl w1))
  · by_cases w2 : (12 : Int32) ≤ x
    · refine zX_seg (pc' := 17) (L' := [.retAddr 1, .int x]) (st' := [.int 0]) (h2 := h) rfl rfl (fun C Cr hc kk => x_iload_n C rfl dX11_at_0 (x_if_lt C 16 dX11_at_1 (by decide) (fun q => absurd q w1) (fun _ => x_iload_n C rfl dX11_at_4 (x_aload_n C (v := .retAddr 1) rfl rfl dX11_at_5 (f_xblen C dX11_at_6 (x_icmp_ge C 16 dX11_at_7 (by decide) (fun _ => x_iconst C (0 : Int32) (by decide) dX11_at_16 kk) (fun q => absurd w2 q))))))) ?_
      exact zX_ret (some (.int 0)) (fun C Cr hc => x_iret C Cr rfl rfl hc dX11_at_17 ⟨rfl, rfl⟩) (z0 (Or.inr w2))
    · obtain ⟨m, m1, rfl⟩ := nI_of w1
      rw [nI_lit 12, nI_leI (by decide) m1] at w2
      refine zX_seg (pc' := 17) (L' := [.retAddr 1, .int (nI m)]) (st' := [.int (zbind (nI m).toNatClampNeg)]) (h2 := h) rfl rfl (fun C Cr hc kk => x_iload_n C rfl dX11_at_0 (x_if_lt C 16 dX11_at_1 (by decide) (fun q => absurd q w1) (fun _ => x_iload_n C rfl dX11_at_4 (x_aload_n C (v := .retAddr 1) rfl rfl dX11_at_5 (f_xblen C dX11_at_6 (x_icmp_ge C 16 dX11_at_7 (by decide) (fun q => absurd q (by rw [nI_lit 12, nI_leI (by decide) m1]; exact w2)) (fun _ => x_aload_n C (v := .retAddr 1) rfl rfl dX11_at_10 (x_iload_n C rfl dX11_at_11 (f_xbald C (vp_in_nI (n := m) (N := 12) (by omega) (by decide)) dX11_at_12 (x_goto C 17 dX11_at_13 (by decide) kk)))))))))) ?_
      refine zX_ret (some (.int _)) (fun C Cr hc => x_iret C Cr rfl rfl hc dX11_at_17 ⟨rfl, rfl⟩) (H _ (fun k hk e => ?_))
      rw [nI_clamp m1]
      have := (nI_eq m1 (by omega)).mp e
      rw [this]
/-- how tightly a sign binds -/
theorem s4_bindingA {x : Int32} (H : ∀ y, (∀ k, k < 12 → x = nI k → y = zbind k) → Q (some (.int y)) h) : zC mX4_binding [.int x] h Q :=
  nX4_binding _ _ _ (bX4_binding_0 _ _ _ (s11_atB (fun y hy => ⟨_, rfl, H y hy⟩)))
theorem s4_binding {k : Nat} (hk : k < 12) (H : Q (some (.int (zbind k))) h) : zC mX4_binding [.int (nI k)] h Q := s4_bindingA (fun y hy => by rw [hy k hk rfl]; exact H)
end

abbrev G_AN_clear (l : Launch) (V : xV) (Q : xIt → xJt → xPt → Prop) (pc : Nat) (lv : List (Nat × xX)) (st : List xX) (I : xIt) (J : xJt) (P : xPt) : Prop := xG l V y_AN_clear (xR 1 0 0) (xFn V y_AN_clear (xR 1 0 0) (xPv Q)) pc lv st xS0 I J P (0, 0)
set_option maxRecDepth 20000 in
theorem b_AN_clear_0 {l : Launch} {V : xV} {Q : xIt → xJt → xPt → Prop} {I : xIt} {J : xJt} {P : xPt} (hL : xL P)  (h : Q (xu I 248 1 0) J P) : G_AN_clear l V Q 0 [(0, xq (some 248))] [] I J P := by
  refine xG_aload_n d_AN_clear_0 rfl rfl rfl ?_
  refine xG_iconst (v := 0) d_AN_clear_1 rfl ?_
  refine xG_puti d_AN_clear_2 xf_AN_15 (Or.inl rfl) rfl s0_248 rfl rfl ?_
  exact xG_return d_AN_clear_5 rfl ⟨rfl, hL, rfl, h⟩
theorem e_AN_clear {l : Launch} {V : xV} {Q : xIt → xJt → xPt → Prop} {I : xIt} {J : xJt} {P : xPt}  (h : G_AN_clear l V Q 0 [(0, xq (some 248))] [] I J P) : xMet l V y_AN_clear 1 0 0 [xq (some 248)] xS0 I J P (xPv Q) := xMet_of (by decide) (Nat.le_of_ble_eq_true rfl) h

abbrev G_AN_eightBytes (l : Launch) (V : xV) (Q : Int64 → xIt → xJt → xPt → Prop) (pc : Nat) (lv : List (Nat × xX)) (st : List xX) (I : xIt) (J : xJt) (P : xPt) : Prop := xG l V y_AN_eightBytes (xR 1 0 0) (xFn V y_AN_eightBytes (xR 1 0 0) (xPl Q)) pc lv st xS0 I J P (0, 0)
set_option maxRecDepth 20000 in
theorem b_AN_eightBytes_0 {l : Launch} {V : xV} {Q : Int64 → xIt → xJt → xPt → Prop} {I : xIt} {J : xJt} {P : xPt} (hL : xL P) {v1 : Int32} (h : ((v1 < 0 → Q 0 I J P) ∧ (¬ v1 < 0 → ((v1 ≤ ((I 248 1) / 8) → G_AN_eightBytes l V Q 25 [(0, xq (some 248)), (1, xi v1), (2, xj 0), (4, xi (8 * v1))] [] I J P) ∧ (¬ v1 ≤ ((I 248 1) / 8) → Q 0 I J P))))) : G_AN_eightBytes l V Q 0 [(0, xq (some 248)), (1, xi v1)] [] I J P := by
  refine xG_iload_n d_AN_eightBytes_0 rfl rfl ?_
  refine xG_if_lt (tgt := 15) d_AN_eightBytes_1 (by decide) (fun c => ?_) (fun c => ?_)
  · have h := h.1 c
    refine xG_lconst (v := 0) d_AN_eightBytes_15 rfl ?_
    exact xG_lreturn d_AN_eightBytes_16 rfl ⟨rfl, hL, _, rfl, h⟩
  · have h := h.2 c
    refine xG_iload_n d_AN_eightBytes_4 rfl rfl ?_
    refine xG_aload_n d_AN_eightBytes_5 rfl rfl rfl ?_
    refine xG_geti d_AN_eightBytes_6 xf_AN_15 rfl s0_248 ?_
    refine xG_bipush (v := 8) d_AN_eightBytes_9 rfl ?_
    refine xG_idiv d_AN_eightBytes_11 (by decide) ?_
    refine xG_icmp_le (tgt := 17) d_AN_eightBytes_12 (by decide) (fun c => ?_) (fun c => ?_)
    · have h := h.1 c
      refine xG_lconst (v := 0) d_AN_eightBytes_17 rfl ?_
      refine xG_lstore_n (lv' := [(2, xj 0), (0, xq (some 248)), (1, xi v1)]) d_AN_eightBytes_18 rfl (Nat.le_of_ble_eq_true rfl) rfl ?_
      refine xG_bipush (v := 8) d_AN_eightBytes_19 rfl ?_
      refine xG_iload_n d_AN_eightBytes_21 rfl rfl ?_
      refine xG_imul d_AN_eightBytes_22 ?_
      refine xG_istore (lv' := [(4, xi (8 * v1)), (2, xj 0), (0, xq (some 248)), (1, xi v1)]) d_AN_eightBytes_23 (Nat.le_of_ble_eq_true rfl) rfl ?_
      refine xG_pick [2, 3, 1, 0] rfl ?_
      exact h
    · have h := h.2 c
      refine xG_lconst (v := 0) d_AN_eightBytes_15 rfl ?_
      exact xG_lreturn d_AN_eightBytes_16 rfl ⟨rfl, hL, _, rfl, h⟩
set_option maxRecDepth 20000 in
theorem b_AN_eightBytes_25 {l : Launch} {V : xV} {Q : Int64 → xIt → xJt → xPt → Prop} {I : xIt} {J : xJt} {P : xPt} (hL : xL P) {v1 : Int32} {v2 : Int64} {v4 : Int32} (h : ((((8 * v1) + 8) ≤ v4 → Q v2 I J P) ∧ (¬ ((8 * v1) + 8) ≤ v4 → (((I 248 1) ≤ v4 → G_AN_eightBytes l V Q 25 [(0, xq (some 248)), (1, xi v1), (2, xj ((v2 <<< ((8 : Int32).toInt64 &&& 63)) ||| ((0 : Int32).toInt64))), (4, xi (v4 + 1))] [] I J P) ∧ (¬ (I 248 1) ≤ v4 → (vp_in v4 1767 ∧ G_AN_eightBytes l V Q 25 [(0, xq (some 248)), (1, xi v1), (2, xj ((v2 <<< ((8 : Int32).toInt64 &&& 63)) ||| ((I 249 v4.toNatClampNeg).toInt64))), (4, xi (v4 + 1))] [] I J P)))))) : G_AN_eightBytes l V Q 25 [(0, xq (some 248)), (1, xi v1), (2, xj v2), (4, xi v4)] [] I J P := by
  refine xG_iload d_AN_eightBytes_25 rfl ?_
  refine xG_bipush (v := 8) d_AN_eightBytes_27 rfl ?_
  refine xG_iload_n d_AN_eightBytes_29 rfl rfl ?_
  refine xG_imul d_AN_eightBytes_30 ?_
  refine xG_bipush (v := 8) d_AN_eightBytes_31 rfl ?_
  refine xG_iadd d_AN_eightBytes_33 ?_
  refine xG_icmp_ge (tgt := 70) d_AN_eightBytes_34 (by decide) (fun c => ?_) (fun c => ?_)
  · have h := h.1 c
    refine xG_lload_n d_AN_eightBytes_70 rfl rfl ?_
    exact xG_lreturn d_AN_eightBytes_71 rfl ⟨rfl, hL, _, rfl, h⟩
  · have h := h.2 c
    refine xG_lload_n d_AN_eightBytes_37 rfl rfl ?_
    refine xG_bipush (v := 8) d_AN_eightBytes_38 rfl ?_
    refine xG_lshl d_AN_eightBytes_40 ?_
    refine xG_iload d_AN_eightBytes_41 rfl ?_
    refine xG_aload_n d_AN_eightBytes_43 rfl rfl rfl ?_
    refine xG_geti d_AN_eightBytes_44 xf_AN_15 rfl s0_248 ?_
    refine xG_icmp_ge (tgt := 60) d_AN_eightBytes_47 (by decide) (fun c => ?_) (fun c => ?_)
    · have h := h.1 c
      refine xG_iconst (v := 0) d_AN_eightBytes_60 rfl ?_
      refine xG_i2l d_AN_eightBytes_61 ?_
      refine xG_lor d_AN_eightBytes_62 ?_
      refine xG_lstore_n (lv' := [(2, xj ((v2 <<< ((8 : Int32).toInt64 &&& 63)) ||| ((0 : Int32).toInt64))), (0, xq (some 248)), (1, xi v1), (4, xi v4)]) d_AN_eightBytes_63 rfl (Nat.le_of_ble_eq_true rfl) rfl ?_
      refine xG_iinc (v := v4 + 1) (lv' := [(4, xi (v4 + 1)), (2, xj ((v2 <<< ((8 : Int32).toInt64 &&& 63)) ||| ((0 : Int32).toInt64))), (0, xq (some 248)), (1, xi v1)]) d_AN_eightBytes_64 rfl rfl (Nat.le_of_ble_eq_true rfl) rfl ?_
      refine xG_goto (tgt := 25) d_AN_eightBytes_67 (by decide) ?_
      refine xG_pick [2, 3, 1, 0] rfl ?_
      exact h
    · have h := h.2 c
      refine xG_aload_n d_AN_eightBytes_50 rfl rfl rfl ?_
      refine xG_getq d_AN_eightBytes_51 xf_AN_11 rfl s0_248 ?_
      refine xG_iload d_AN_eightBytes_54 rfl ?_
      refine xG_iald d_AN_eightBytes_56 (lp_248_0 hL) s0_249 h.1 ?_
      have h := h.2
      refine xG_goto (tgt := 61) d_AN_eightBytes_57 (by decide) ?_
      refine xG_i2l d_AN_eightBytes_61 ?_
      refine xG_lor d_AN_eightBytes_62 ?_
      refine xG_lstore_n (lv' := [(2, xj ((v2 <<< ((8 : Int32).toInt64 &&& 63)) ||| ((I 249 v4.toNatClampNeg).toInt64))), (0, xq (some 248)), (1, xi v1), (4, xi v4)]) d_AN_eightBytes_63 rfl (Nat.le_of_ble_eq_true rfl) rfl ?_
      refine xG_iinc (v := v4 + 1) (lv' := [(4, xi (v4 + 1)), (2, xj ((v2 <<< ((8 : Int32).toInt64 &&& 63)) ||| ((I 249 v4.toNatClampNeg).toInt64))), (0, xq (some 248)), (1, xi v1)]) d_AN_eightBytes_64 rfl rfl (Nat.le_of_ble_eq_true rfl) rfl ?_
      refine xG_goto (tgt := 25) d_AN_eightBytes_67 (by decide) ?_
      refine xG_pick [2, 3, 1, 0] rfl ?_
      exact h
theorem e_AN_eightBytes {l : Launch} {V : xV} {Q : Int64 → xIt → xJt → xPt → Prop} {I : xIt} {J : xJt} {P : xPt} {v1 : Int32} (h : G_AN_eightBytes l V Q 0 [(0, xq (some 248)), (1, xi v1)] [] I J P) : xMet l V y_AN_eightBytes 1 0 0 [xq (some 248), xi v1] xS0 I J P (xPl Q) := xMet_of (by decide) (Nat.le_of_ble_eq_true rfl) h

abbrev G_AN_writeNotice (l : Launch) (V : xV) (Q : xIt → xJt → xPt → Prop) (pc : Nat) (lv : List (Nat × xX)) (st : List xX) (I : xIt) (J : xJt) (P : xPt) : Prop := xG l V y_AN_writeNotice (xR 2 0 0) (xFn V y_AN_writeNotice (xR 2 0 0) (xPv Q)) pc lv st xS0 I J P (0, 0)
set_option maxRecDepth 20000 in
theorem b_AN_writeNotice_0 {l : Launch} {V : xV} {Q : xIt → xJt → xPt → Prop} {I : xIt} {J : xJt} {P : xPt} (hL : xL P)  (h : G_AN_writeNotice l V Q 2 [(0, xq (some 248)), (1, xi 0)] [] I J P) : G_AN_writeNotice l V Q 0 [(0, xq (some 248))] [] I J P := by
  refine xG_iconst (v := 0) d_AN_writeNotice_0 rfl ?_
  refine xG_istore_n (lv' := [(1, xi 0), (0, xq (some 248))]) d_AN_writeNotice_1 rfl (Nat.le_of_ble_eq_true rfl) rfl ?_
  refine xG_pick [1, 0] rfl ?_
  exact h
set_option maxRecDepth 20000 in
theorem b_AN_writeNotice_2 {l : Launch} {V : xV} {Q : xIt → xJt → xPt → Prop} {I : xIt} {J : xJt} {P : xPt} (hL : xL P) {v1 : Int32} (h : ((14 ≤ v1 → Q I J P) ∧ (¬ 14 ≤ v1 → (vp_in v1 14 ∧ (∃ Q1 : xIt → xJt → xPt → Prop, xMet l V y_AN_put 1 0 0 [xq (some 248), xi (xs2 v1.toNatClampNeg)] xS0 I J P (xPv Q1) ∧ ∀ (I1 : xIt) (J1 : xJt) (P1 : xPt), Q1 I1 J1 P1 → G_AN_writeNotice l V Q 2 [(0, xq (some 248)), (1, xi (v1 + 1))] [] I1 J1 P1))))) : G_AN_writeNotice l V Q 2 [(0, xq (some 248)), (1, xi v1)] [] I J P := by
  refine xG_iload_n d_AN_writeNotice_2 rfl rfl ?_
  refine xG_gets (q := ("DirectorySession$Answer", "NOTICE", "[I")) (j := 2) d_AN_writeNotice_3 rfl w2_123 ?_
  refine xG_tlen (v := 14) d_AN_writeNotice_6 (by decide) rfl ?_
  refine xG_icmp_ge (tgt := 25) d_AN_writeNotice_7 (by decide) (fun c => ?_) (fun c => ?_)
  · have h := h.1 c
    exact xG_return d_AN_writeNotice_25 rfl ⟨rfl, hL, rfl, h⟩
  · have h := h.2 c
    refine xG_aload_n d_AN_writeNotice_10 rfl rfl rfl ?_
    refine xG_gets (q := ("DirectorySession$Answer", "NOTICE", "[I")) (j := 2) d_AN_writeNotice_11 rfl w2_123 ?_
    refine xG_iload_n d_AN_writeNotice_14 rfl rfl ?_
    refine xG_ti d_AN_writeNotice_15 (by decide) rfl h.1 ?_
    have h := h.2
    refine xG_topi (x' := xs2 v1.toNatClampNeg) rfl ?_
    obtain ⟨Q1, hM, h⟩ := h
    refine xG_callv (as := [xi (xs2 v1.toNatClampNeg)]) (rest := []) d_AN_writeNotice_16 yv_AN_put w2_125 rfl rfl rfl s0_248 (by decide) rfl hM ⟨by decide, by decide⟩ (Nat.le_of_ble_eq_true rfl) ⟨Nat.zero_le _, Nat.zero_le _⟩ (fun r S1 I1 J1 P1 hp => ?_)
    obtain ⟨rfl, hL1, rfl, hq⟩ := hp
    have h := h I1 J1 P1 hq
    refine xG_iinc (v := v1 + 1) (lv' := [(1, xi (v1 + 1)), (0, xq (some 248))]) d_AN_writeNotice_19 rfl rfl (Nat.le_of_ble_eq_true rfl) rfl ?_
    refine xG_goto (tgt := 2) d_AN_writeNotice_22 (by decide) ?_
    refine xG_pick [1, 0] rfl ?_
    exact h
theorem e_AN_writeNotice {l : Launch} {V : xV} {Q : xIt → xJt → xPt → Prop} {I : xIt} {J : xJt} {P : xPt}  (h : G_AN_writeNotice l V Q 0 [(0, xq (some 248))] [] I J P) : xMet l V y_AN_writeNotice 2 0 0 [xq (some 248)] xS0 I J P (xPv Q) := xMet_of (by decide) (Nat.le_of_ble_eq_true rfl) h

abbrev G_AN_writeResult (l : Launch) (V : xV) (Q : xIt → xJt → xPt → Prop) (pc : Nat) (lv : List (Nat × xX)) (st : List xX) (I : xIt) (J : xJt) (P : xPt) : Prop := xG l V y_AN_writeResult (xR 3 0 0) (xFn V y_AN_writeResult (xR 3 0 0) (xPv Q)) pc lv st xS0 I J P (0, 0)
set_option maxRecDepth 20000 in
theorem b_AN_writeResult_0 {l : Launch} {V : xV} {Q : xIt → xJt → xPt → Prop} {I : xIt} {J : xJt} {P : xPt} (hL : xL P) {v1 : Int32} {v2 : Int32} {v3 : Int32} (h : (∃ Q1 : xIt → xJt → xPt → Prop, xMet l V y_AN_writeId 2 0 0 [xq (some 248), xi v1] xS0 I J P (xPv Q1) ∧ ∀ (I1 : xIt) (J1 : xJt) (P1 : xPt), Q1 I1 J1 P1 → (∃ Q2 : xIt → xJt → xPt → Prop, xMet l V y_AN_put 1 0 0 [xq (some 248), xi 10] xS0 I1 J1 P1 (xPv Q2) ∧ ∀ (I2 : xIt) (J2 : xJt) (P2 : xPt), Q2 I2 J2 P2 → (∃ Q3 : xIt → xJt → xPt → Prop, xMet l V y_AN_put 1 0 0 [xq (some 248), xi 1] xS0 I2 J2 P2 (xPv Q3) ∧ ∀ (I3 : xIt) (J3 : xJt) (P3 : xPt), Q3 I3 J3 P3 → (∃ Q4 : xIt → xJt → xPt → Prop, xMet l V y_AN_put 1 0 0 [xq (some 248), xi v3] xS0 I3 J3 P3 (xPv Q4) ∧ ∀ (I4 : xIt) (J4 : xJt) (P4 : xPt), Q4 I4 J4 P4 → (∃ Q5 : xIt → xJt → xPt → Prop, xMet l V y_AN_put 1 0 0 [xq (some 248), xi 4] xS0 I4 J4 P4 (xPv Q5) ∧ ∀ (I5 : xIt) (J5 : xJt) (P5 : xPt), Q5 I5 J5 P5 → (∃ Q6 : xIt → xJt → xPt → Prop, xMet l V y_AN_put 1 0 0 [xq (some 248), xi 0] xS0 I5 J5 P5 (xPv Q6) ∧ ∀ (I6 : xIt) (J6 : xJt) (P6 : xPt), Q6 I6 J6 P6 → (∃ Q7 : xIt → xJt → xPt → Prop, xMet l V y_AN_put 1 0 0 [xq (some 248), xi 4] xS0 I6 J6 P6 (xPv Q7) ∧ ∀ (I7 : xIt) (J7 : xJt) (P7 : xPt), Q7 I7 J7 P7 → (∃ Q8 : xIt → xJt → xPt → Prop, xMet l V y_AN_put 1 0 0 [xq (some 248), xi 0] xS0 I7 J7 P7 (xPv Q8) ∧ ∀ (I8 : xIt) (J8 : xJt) (P8 : xPt), Q8 I8 J8 P8 → (∃ Q9 : Int32 → xIt → xJt → xPt → Prop, xMet l V y_AN_answerTo 1 0 0 [xi v2] xS0 I8 J8 P8 (xPi Q9) ∧ ∀ (z9 : Int32) (I9 : xIt) (J9 : xJt) (P9 : xPt), Q9 z9 I9 J9 P9 → (∃ Q10 : xIt → xJt → xPt → Prop, xMet l V y_AN_wrap 1 0 0 [xq (some 248), xi z9, xi (I1 248 1)] xS0 I9 J9 P9 (xPv Q10) ∧ ∀ (I10 : xIt) (J10 : xJt) (P10 : xPt), Q10 I10 J10 P10 → (∃ Q11 : xIt → xJt → xPt → Prop, xMet l V y_AN_wrap 1 0 0 [xq (some 248), xi 48, xi (I 248 1)] xS0 I10 J10 P10 (xPv Q11) ∧ ∀ (I11 : xIt) (J11 : xJt) (P11 : xPt), Q11 I11 J11 P11 → Q I11 J11 P11)))))))))))) : G_AN_writeResult l V Q 0 [(0, xq (some 248)), (1, xi v1), (2, xi v2), (3, xi v3)] [] I J P := by
  refine xG_aload_n d_AN_writeResult_0 rfl rfl rfl ?_
  refine xG_geti d_AN_writeResult_1 xf_AN_15 rfl s0_248 ?_
  refine xG_istore (lv' := [(4, xi (I 248 1)), (0, xq (some 248)), (1, xi v1), (2, xi v2), (3, xi v3)]) d_AN_writeResult_4 (Nat.le_of_ble_eq_true rfl) rfl ?_
  refine xG_aload_n d_AN_writeResult_6 rfl rfl rfl ?_
  refine xG_iload_n d_AN_writeResult_7 rfl rfl ?_
  obtain ⟨Q1, hM, h⟩ := h
  refine xG_callv (as := [xi v1]) (rest := []) d_AN_writeResult_8 yv_AN_writeId w3_29 rfl rfl rfl s0_248 (by decide) rfl hM ⟨by decide, by decide⟩ (Nat.le_of_ble_eq_true rfl) ⟨Nat.zero_le _, Nat.zero_le _⟩ (fun r S1 I1 J1 P1 hp => ?_)
  obtain ⟨rfl, hL1, rfl, hq⟩ := hp
  have h := h I1 J1 P1 hq
  refine xG_aload_n d_AN_writeResult_11 rfl rfl rfl ?_
  refine xG_geti d_AN_writeResult_12 xf_AN_15 rfl s0_248 ?_
  refine xG_istore (lv' := [(5, xi (I1 248 1)), (4, xi (I 248 1)), (0, xq (some 248)), (1, xi v1), (2, xi v2), (3, xi v3)]) d_AN_writeResult_15 (Nat.le_of_ble_eq_true rfl) rfl ?_
  refine xG_aload_n d_AN_writeResult_17 rfl rfl rfl ?_
  refine xG_bipush (v := 10) d_AN_writeResult_18 rfl ?_
  obtain ⟨Q2, hM, h⟩ := h
  refine xG_callv (as := [xi 10]) (rest := []) d_AN_writeResult_20 yv_AN_put w2_125 rfl rfl rfl s0_248 (by decide) rfl hM ⟨by decide, by decide⟩ (Nat.le_of_ble_eq_true rfl) ⟨Nat.zero_le _, Nat.zero_le _⟩ (fun r S2 I2 J2 P2 hp => ?_)
  obtain ⟨rfl, hL2, rfl, hq⟩ := hp
  have h := h I2 J2 P2 hq
  refine xG_aload_n d_AN_writeResult_23 rfl rfl rfl ?_
  refine xG_iconst (v := 1) d_AN_writeResult_24 rfl ?_
  obtain ⟨Q3, hM, h⟩ := h
  refine xG_callv (as := [xi 1]) (rest := []) d_AN_writeResult_25 yv_AN_put w2_125 rfl rfl rfl s0_248 (by decide) rfl hM ⟨by decide, by decide⟩ (Nat.le_of_ble_eq_true rfl) ⟨Nat.zero_le _, Nat.zero_le _⟩ (fun r S3 I3 J3 P3 hp => ?_)
  obtain ⟨rfl, hL3, rfl, hq⟩ := hp
  have h := h I3 J3 P3 hq
  refine xG_aload_n d_AN_writeResult_28 rfl rfl rfl ?_
  refine xG_iload_n d_AN_writeResult_29 rfl rfl ?_
  obtain ⟨Q4, hM, h⟩ := h
  refine xG_callv (as := [xi v3]) (rest := []) d_AN_writeResult_30 yv_AN_put w2_125 rfl rfl rfl s0_248 (by decide) rfl hM ⟨by decide, by decide⟩ (Nat.le_of_ble_eq_true rfl) ⟨Nat.zero_le _, Nat.zero_le _⟩ (fun r S4 I4 J4 P4 hp => ?_)
  obtain ⟨rfl, hL4, rfl, hq⟩ := hp
  have h := h I4 J4 P4 hq
  refine xG_aload_n d_AN_writeResult_33 rfl rfl rfl ?_
  refine xG_iconst (v := 4) d_AN_writeResult_34 rfl ?_
  obtain ⟨Q5, hM, h⟩ := h
  refine xG_callv (as := [xi 4]) (rest := []) d_AN_writeResult_35 yv_AN_put w2_125 rfl rfl rfl s0_248 (by decide) rfl hM ⟨by decide, by decide⟩ (Nat.le_of_ble_eq_true rfl) ⟨Nat.zero_le _, Nat.zero_le _⟩ (fun r S5 I5 J5 P5 hp => ?_)
  obtain ⟨rfl, hL5, rfl, hq⟩ := hp
  have h := h I5 J5 P5 hq
  refine xG_aload_n d_AN_writeResult_38 rfl rfl rfl ?_
  refine xG_iconst (v := 0) d_AN_writeResult_39 rfl ?_
  obtain ⟨Q6, hM, h⟩ := h
  refine xG_callv (as := [xi 0]) (rest := []) d_AN_writeResult_40 yv_AN_put w2_125 rfl rfl rfl s0_248 (by decide) rfl hM ⟨by decide, by decide⟩ (Nat.le_of_ble_eq_true rfl) ⟨Nat.zero_le _, Nat.zero_le _⟩ (fun r S6 I6 J6 P6 hp => ?_)
  obtain ⟨rfl, hL6, rfl, hq⟩ := hp
  have h := h I6 J6 P6 hq
  refine xG_aload_n d_AN_writeResult_43 rfl rfl rfl ?_
  refine xG_iconst (v := 4) d_AN_writeResult_44 rfl ?_
  obtain ⟨Q7, hM, h⟩ := h
  refine xG_callv (as := [xi 4]) (rest := []) d_AN_writeResult_45 yv_AN_put w2_125 rfl rfl rfl s0_248 (by decide) rfl hM ⟨by decide, by decide⟩ (Nat.le_of_ble_eq_true rfl) ⟨Nat.zero_le _, Nat.zero_le _⟩ (fun r S7 I7 J7 P7 hp => ?_)
  obtain ⟨rfl, hL7, rfl, hq⟩ := hp
  have h := h I7 J7 P7 hq
  refine xG_aload_n d_AN_writeResult_48 rfl rfl rfl ?_
  refine xG_iconst (v := 0) d_AN_writeResult_49 rfl ?_
  obtain ⟨Q8, hM, h⟩ := h
  refine xG_callv (as := [xi 0]) (rest := []) d_AN_writeResult_50 yv_AN_put w2_125 rfl rfl rfl s0_248 (by decide) rfl hM ⟨by decide, by decide⟩ (Nat.le_of_ble_eq_true rfl) ⟨Nat.zero_le _, Nat.zero_le _⟩ (fun r S8 I8 J8 P8 hp => ?_)
  obtain ⟨rfl, hL8, rfl, hq⟩ := hp
  have h := h I8 J8 P8 hq
  refine xG_aload_n d_AN_writeResult_53 rfl rfl rfl ?_
  refine xG_iload_n d_AN_writeResult_54 rfl rfl ?_
  obtain ⟨Q9, hM, h⟩ := h
  refine xG_calls (as := [xi v2]) (rest := [xq (some 248)]) d_AN_writeResult_55 ys_AN_answerTo w3_201 rfl rfl hM ⟨by decide, by decide⟩ (Nat.le_of_ble_eq_true rfl) ⟨Nat.zero_le _, Nat.zero_le _⟩ (fun r S9 I9 J9 P9 hp => ?_)
  obtain ⟨rfl, hL9, z9, rfl, hq⟩ := hp
  have h := h z9 I9 J9 P9 hq
  refine xG_iload d_AN_writeResult_58 rfl ?_
  obtain ⟨Q10, hM, h⟩ := h
  refine xG_callv (as := [xi z9, xi (I1 248 1)]) (rest := []) d_AN_writeResult_60 yv_AN_wrap w3_33 rfl rfl rfl s0_248 (by decide) rfl hM ⟨by decide, by decide⟩ (Nat.le_of_ble_eq_true rfl) ⟨Nat.zero_le _, Nat.zero_le _⟩ (fun r S10 I10 J10 P10 hp => ?_)
  obtain ⟨rfl, hL10, rfl, hq⟩ := hp
  have h := h I10 J10 P10 hq
  refine xG_aload_n d_AN_writeResult_63 rfl rfl rfl ?_
  refine xG_bipush (v := 48) d_AN_writeResult_64 rfl ?_
  refine xG_iload d_AN_writeResult_66 rfl ?_
  obtain ⟨Q11, hM, h⟩ := h
  refine xG_callv (as := [xi 48, xi (I 248 1)]) (rest := []) d_AN_writeResult_68 yv_AN_wrap w3_33 rfl rfl rfl s0_248 (by decide) rfl hM ⟨by decide, by decide⟩ (Nat.le_of_ble_eq_true rfl) ⟨Nat.zero_le _, Nat.zero_le _⟩ (fun r S11 I11 J11 P11 hp => ?_)
  obtain ⟨rfl, hL11, rfl, hq⟩ := hp
  have h := h I11 J11 P11 hq
  exact xG_return d_AN_writeResult_71 rfl ⟨rfl, hL11, rfl, h⟩
theorem e_AN_writeResult {l : Launch} {V : xV} {Q : xIt → xJt → xPt → Prop} {I : xIt} {J : xJt} {P : xPt} {v1 : Int32} {v2 : Int32} {v3 : Int32} (h : G_AN_writeResult l V Q 0 [(0, xq (some 248)), (1, xi v1), (2, xi v2), (3, xi v3)] [] I J P) : xMet l V y_AN_writeResult 3 0 0 [xq (some 248), xi v1, xi v2, xi v3] xS0 I J P (xPv Q) := xMet_of (by decide) (Nat.le_of_ble_eq_true rfl) h

abbrev G_AN_answerTo (l : Launch) (V : xV) (Q : Int32 → xIt → xJt → xPt → Prop) (pc : Nat) (lv : List (Nat × xX)) (st : List xX) (I : xIt) (J : xJt) (P : xPt) : Prop := xG l V y_AN_answerTo (xR 1 0 0) (xFn V y_AN_answerTo (xR 1 0 0) (xPi Q)) pc lv st xS0 I J P (0, 0)
set_option maxRecDepth 20000 in
theorem b_AN_answerTo_0 {l : Launch} {V : xV} {Q : Int32 → xIt → xJt → xPt → Prop} {I : xIt} {J : xJt} {P : xPt} (hL : xL P) {v0 : Int32} (h : ((¬ v0 = 99 → ((¬ v0 = 74 → Q (v0 + 1) I J P) ∧ (v0 = 74 → Q 107 I J P))) ∧ (v0 = 99 → Q 101 I J P))) : G_AN_answerTo l V Q 0 [(0, xi v0)] [] I J P := by
  refine xG_iload_n d_AN_answerTo_0 rfl rfl ?_
  refine xG_bipush (v := 99) d_AN_answerTo_1 rfl ?_
  refine xG_icmp_ne (tgt := 9) d_AN_answerTo_3 (by decide) (fun c => ?_) (fun c => ?_)
  · have h := h.1 c
    refine xG_iload_n d_AN_answerTo_9 rfl rfl ?_
    refine xG_bipush (v := 74) d_AN_answerTo_10 rfl ?_
    refine xG_icmp_ne (tgt := 20) d_AN_answerTo_12 (by decide) (fun c => ?_) (fun c => ?_)
    · have h := h.1 c
      refine xG_iload_n d_AN_answerTo_20 rfl rfl ?_
      refine xG_iconst (v := 1) d_AN_answerTo_21 rfl ?_
      refine xG_iadd d_AN_answerTo_22 ?_
      exact xG_ireturn d_AN_answerTo_23 rfl rfl ⟨rfl, hL, _, rfl, h⟩
    · have h := h.2 c
      refine xG_bipush (v := 107) d_AN_answerTo_15 rfl ?_
      refine xG_goto (tgt := 23) d_AN_answerTo_17 (by decide) ?_
      exact xG_ireturn d_AN_answerTo_23 rfl rfl ⟨rfl, hL, _, rfl, h⟩
  · have h := h.2 c
    refine xG_bipush (v := 101) d_AN_answerTo_6 rfl ?_
    exact xG_ireturn d_AN_answerTo_8 rfl rfl ⟨rfl, hL, _, rfl, h⟩
theorem e_AN_answerTo {l : Launch} {V : xV} {Q : Int32 → xIt → xJt → xPt → Prop} {I : xIt} {J : xJt} {P : xPt} {v0 : Int32} (h : G_AN_answerTo l V Q 0 [(0, xi v0)] [] I J P) : xMet l V y_AN_answerTo 1 0 0 [xi v0] xS0 I J P (xPi Q) := xMet_of (by decide) (Nat.le_of_ble_eq_true rfl) h

abbrev G_AN_writeEntry (l : Launch) (V : xV) (Q : xIt → xJt → xPt → Prop) (pc : Nat) (lv : List (Nat × xX)) (st : List xX) (I : xIt) (J : xJt) (P : xPt) : Prop := xG l V y_AN_writeEntry (xR 4 0 0) (xFn V y_AN_writeEntry (xR 4 0 0) (xPv Q)) pc lv st xS0 I J P (0, 0)
set_option maxRecDepth 20000 in
theorem b_AN_writeEntry_0 {l : Launch} {V : xV} {Q : xIt → xJt → xPt → Prop} {I : xIt} {J : xJt} {P : xPt} (hL : xL P) {v1 : Int32} {v2 : Option Nat} (h : (∃ Q1 : xIt → xJt → xPt → Prop, xMet l V y_AN_writeId 2 0 0 [xq (some 248), xi v1] xS0 I J P (xPv Q1) ∧ ∀ (I1 : xIt) (J1 : xJt) (P1 : xPt), Q1 I1 J1 P1 → (∃ Q2 : xIt → xJt → xPt → Prop, xMet l V y_AN_writeName 3 0 0 [xq (some 248), xq v2] xS0 I1 J1 P1 (xPv Q2) ∧ ∀ (I2 : xIt) (J2 : xJt) (P2 : xPt), Q2 I2 J2 P2 → G_AN_writeEntry l V Q 30 [(0, xq (some 248)), (1, xi v1), (2, xq v2), (3, xi (I 248 1)), (4, xi (I1 248 1)), (5, xi (I2 248 1)), (6, xi 0)] [] I2 J2 P2))) : G_AN_writeEntry l V Q 0 [(0, xq (some 248)), (1, xi v1), (2, xq v2)] [] I J P := by
  refine xG_aload_n d_AN_writeEntry_0 rfl rfl rfl ?_
  refine xG_geti d_AN_writeEntry_1 xf_AN_15 rfl s0_248 ?_
  refine xG_istore_n (lv' := [(3, xi (I 248 1)), (0, xq (some 248)), (1, xi v1), (2, xq v2)]) d_AN_writeEntry_4 rfl (Nat.le_of_ble_eq_true rfl) rfl ?_
  refine xG_aload_n d_AN_writeEntry_5 rfl rfl rfl ?_
  refine xG_iload_n d_AN_writeEntry_6 rfl rfl ?_
  obtain ⟨Q1, hM, h⟩ := h
  refine xG_callv (as := [xi v1]) (rest := []) d_AN_writeEntry_7 yv_AN_writeId w3_29 rfl rfl rfl s0_248 (by decide) rfl hM ⟨by decide, by decide⟩ (Nat.le_of_ble_eq_true rfl) ⟨Nat.zero_le _, Nat.zero_le _⟩ (fun r S1 I1 J1 P1 hp => ?_)
  obtain ⟨rfl, hL1, rfl, hq⟩ := hp
  have h := h I1 J1 P1 hq
  refine xG_aload_n d_AN_writeEntry_10 rfl rfl rfl ?_
  refine xG_geti d_AN_writeEntry_11 xf_AN_15 rfl s0_248 ?_
  refine xG_istore (lv' := [(4, xi (I1 248 1)), (3, xi (I 248 1)), (0, xq (some 248)), (1, xi v1), (2, xq v2)]) d_AN_writeEntry_14 (Nat.le_of_ble_eq_true rfl) rfl ?_
  refine xG_aload_n d_AN_writeEntry_16 rfl rfl rfl ?_
  refine xG_aload_n d_AN_writeEntry_17 rfl rfl rfl ?_
  obtain ⟨Q2, hM, h⟩ := h
  refine xG_callv (as := [xq v2]) (rest := []) d_AN_writeEntry_18 yv_AN_writeName w3_37 rfl rfl rfl s0_248 (by decide) rfl hM ⟨by decide, by decide⟩ (Nat.le_of_ble_eq_true rfl) ⟨Nat.zero_le _, Nat.zero_le _⟩ (fun r S2 I2 J2 P2 hp => ?_)
  obtain ⟨rfl, hL2, rfl, hq⟩ := hp
  have h := h I2 J2 P2 hq
  refine xG_aload_n d_AN_writeEntry_21 rfl rfl rfl ?_
  refine xG_geti d_AN_writeEntry_22 xf_AN_15 rfl s0_248 ?_
  refine xG_istore (lv' := [(5, xi (I2 248 1)), (4, xi (I1 248 1)), (3, xi (I 248 1)), (0, xq (some 248)), (1, xi v1), (2, xq v2)]) d_AN_writeEntry_25 (Nat.le_of_ble_eq_true rfl) rfl ?_
  refine xG_iconst (v := 0) d_AN_writeEntry_27 rfl ?_
  refine xG_istore (lv' := [(6, xi 0), (5, xi (I2 248 1)), (4, xi (I1 248 1)), (3, xi (I 248 1)), (0, xq (some 248)), (1, xi v1), (2, xq v2)]) d_AN_writeEntry_28 (Nat.le_of_ble_eq_true rfl) rfl ?_
  refine xG_pick [4, 5, 6, 3, 2, 1, 0] rfl ?_
  exact h
set_option maxRecDepth 20000 in
theorem b_AN_writeEntry_30 {l : Launch} {V : xV} {Q : xIt → xJt → xPt → Prop} {I : xIt} {J : xJt} {P : xPt} (hL : xL P) {v1 : Int32} {v2 : Option Nat} {v3 : Int32} {v4 : Int32} {v5 : Int32} {v6 : Int32} (h : ((5 ≤ v6 → (∃ Q1 : xIt → xJt → xPt → Prop, xMet l V y_AN_wrap 1 0 0 [xq (some 248), xi 48, xi v5] xS0 I J P (xPv Q1) ∧ ∀ (I1 : xIt) (J1 : xJt) (P1 : xPt), Q1 I1 J1 P1 → (∃ Q2 : xIt → xJt → xPt → Prop, xMet l V y_AN_wrap 1 0 0 [xq (some 248), xi 100, xi v4] xS0 I1 J1 P1 (xPv Q2) ∧ ∀ (I2 : xIt) (J2 : xJt) (P2 : xPt), Q2 I2 J2 P2 → (∃ Q3 : xIt → xJt → xPt → Prop, xMet l V y_AN_wrap 1 0 0 [xq (some 248), xi 48, xi v3] xS0 I2 J2 P2 (xPv Q3) ∧ ∀ (I3 : xIt) (J3 : xJt) (P3 : xPt), Q3 I3 J3 P3 → Q I3 J3 P3)))) ∧ (¬ 5 ≤ v6 → (∃ a4 : Nat, v2 = some a4 ∧ xS0[a4]? = some (5, 0) ∧ (vp_in v6 5 ∧ (∃ a5 : Nat, P (a4 + 1) v6.toNatClampNeg = some a5 ∧ xS0[a5]? = some (6, 0) ∧ (((I a5 2) ≤ 0 → G_AN_writeEntry l V Q 30 [(0, xq (some 248)), (1, xi v1), (2, xq v2), (3, xi v3), (4, xi v4), (5, xi v5), (6, xi (v6 + 1))] [] I J P) ∧ (¬ (I a5 2) ≤ 0 → (vp_in v6 5 ∧ (∃ Q6 : xIt → xJt → xPt → Prop, xMet l V y_AN_writeAttribute 3 0 0 [xq (some 248), xi v6, xq (P (a4 + 1) v6.toNatClampNeg)] xS0 I J P (xPv Q6) ∧ ∀ (I6 : xIt) (J6 : xJt) (P6 : xPt), Q6 I6 J6 P6 → G_AN_writeEntry l V Q 30 [(0, xq (some 248)), (1, xi v1), (2, xq v2), (3, xi v3), (4, xi v4), (5, xi v5), (6, xi (v6 + 1))] [] I6 J6 P6)))))))))) : G_AN_writeEntry l V Q 30 [(0, xq (some 248)), (1, xi v1), (2, xq v2), (3, xi v3), (4, xi v4), (5, xi v5), (6, xi v6)] [] I J P := by
  refine xG_iload d_AN_writeEntry_30 rfl ?_
  refine xG_iconst (v := 5) d_AN_writeEntry_32 rfl ?_
  refine xG_icmp_ge (tgt := 68) d_AN_writeEntry_33 (by decide) (fun c => ?_) (fun c => ?_)
  · have h := h.1 c
    refine xG_aload_n d_AN_writeEntry_68 rfl rfl rfl ?_
    refine xG_bipush (v := 48) d_AN_writeEntry_69 rfl ?_
    refine xG_iload d_AN_writeEntry_71 rfl ?_
    obtain ⟨Q1, hM, h⟩ := h
    refine xG_callv (as := [xi 48, xi v5]) (rest := []) d_AN_writeEntry_73 yv_AN_wrap w3_33 rfl rfl rfl s0_248 (by decide) rfl hM ⟨by decide, by decide⟩ (Nat.le_of_ble_eq_true rfl) ⟨Nat.zero_le _, Nat.zero_le _⟩ (fun r S1 I1 J1 P1 hp => ?_)
    obtain ⟨rfl, hL1, rfl, hq⟩ := hp
    have h := h I1 J1 P1 hq
    refine xG_aload_n d_AN_writeEntry_76 rfl rfl rfl ?_
    refine xG_bipush (v := 100) d_AN_writeEntry_77 rfl ?_
    refine xG_iload d_AN_writeEntry_79 rfl ?_
    obtain ⟨Q2, hM, h⟩ := h
    refine xG_callv (as := [xi 100, xi v4]) (rest := []) d_AN_writeEntry_81 yv_AN_wrap w3_33 rfl rfl rfl s0_248 (by decide) rfl hM ⟨by decide, by decide⟩ (Nat.le_of_ble_eq_true rfl) ⟨Nat.zero_le _, Nat.zero_le _⟩ (fun r S2 I2 J2 P2 hp => ?_)
    obtain ⟨rfl, hL2, rfl, hq⟩ := hp
    have h := h I2 J2 P2 hq
    refine xG_aload_n d_AN_writeEntry_84 rfl rfl rfl ?_
    refine xG_bipush (v := 48) d_AN_writeEntry_85 rfl ?_
    refine xG_iload_n d_AN_writeEntry_87 rfl rfl ?_
    obtain ⟨Q3, hM, h⟩ := h
    refine xG_callv (as := [xi 48, xi v3]) (rest := []) d_AN_writeEntry_88 yv_AN_wrap w3_33 rfl rfl rfl s0_248 (by decide) rfl hM ⟨by decide, by decide⟩ (Nat.le_of_ble_eq_true rfl) ⟨Nat.zero_le _, Nat.zero_le _⟩ (fun r S3 I3 J3 P3 hp => ?_)
    obtain ⟨rfl, hL3, rfl, hq⟩ := hp
    have h := h I3 J3 P3 hq
    exact xG_return d_AN_writeEntry_91 rfl ⟨rfl, hL3, rfl, h⟩
  · have h := h.2 c
    refine xG_aload_n d_AN_writeEntry_36 rfl rfl rfl ?_
    obtain ⟨a4, e4, s4, h⟩ := h
    refine xG_getq d_AN_writeEntry_37 xf_AN_41 e4 s4 ?_
    refine xG_iload d_AN_writeEntry_40 rfl ?_
    refine xG_aald (t := 0) d_AN_writeEntry_42 (lo_5_0 hL s4) (so_5_0 s4) rfl h.1 ?_
    have h := h.2
    obtain ⟨a5, e5, s5, h⟩ := h
    refine xG_geti d_AN_writeEntry_43 xf_AN_47 e5 s5 ?_
    refine xG_if_le (tgt := 62) d_AN_writeEntry_46 (by decide) (fun c => ?_) (fun c => ?_)
    · have h := h.1 c
      refine xG_iinc (v := v6 + 1) (lv' := [(6, xi (v6 + 1)), (0, xq (some 248)), (1, xi v1), (2, xq v2), (3, xi v3), (4, xi v4), (5, xi v5)]) d_AN_writeEntry_62 rfl rfl (Nat.le_of_ble_eq_true rfl) rfl ?_
      refine xG_goto (tgt := 30) d_AN_writeEntry_65 (by decide) ?_
      refine xG_pick [1, 2, 3, 4, 5, 6, 0] rfl ?_
      exact h
    · have h := h.2 c
      refine xG_aload_n d_AN_writeEntry_49 rfl rfl rfl ?_
      refine xG_iload d_AN_writeEntry_50 rfl ?_
      refine xG_aload_n d_AN_writeEntry_52 rfl rfl rfl ?_
      refine xG_getq d_AN_writeEntry_53 xf_AN_41 e4 s4 ?_
      refine xG_iload d_AN_writeEntry_56 rfl ?_
      refine xG_aald (t := 0) d_AN_writeEntry_58 (lo_5_0 hL s4) (so_5_0 s4) rfl h.1 ?_
      have h := h.2
      obtain ⟨Q6, hM, h⟩ := h
      refine xG_callv (as := [xi v6, xq (P (a4 + 1) v6.toNatClampNeg)]) (rest := []) d_AN_writeEntry_59 yv_AN_writeAttribute w3_49 rfl rfl rfl s0_248 (by decide) rfl hM ⟨by decide, by decide⟩ (Nat.le_of_ble_eq_true rfl) ⟨Nat.zero_le _, Nat.zero_le _⟩ (fun r S6 I6 J6 P6 hp => ?_)
      obtain ⟨rfl, hL6, rfl, hq⟩ := hp
      have h := h I6 J6 P6 hq
      refine xG_iinc (v := v6 + 1) (lv' := [(6, xi (v6 + 1)), (0, xq (some 248)), (1, xi v1), (2, xq v2), (3, xi v3), (4, xi v4), (5, xi v5)]) d_AN_writeEntry_62 rfl rfl (Nat.le_of_ble_eq_true rfl) rfl ?_
      refine xG_goto (tgt := 30) d_AN_writeEntry_65 (by decide) ?_
      refine xG_pick [1, 2, 3, 4, 5, 6, 0] rfl ?_
      exact h
theorem e_AN_writeEntry {l : Launch} {V : xV} {Q : xIt → xJt → xPt → Prop} {I : xIt} {J : xJt} {P : xPt} {v1 : Int32} {v2 : Option Nat} (h : G_AN_writeEntry l V Q 0 [(0, xq (some 248)), (1, xi v1), (2, xq v2)] [] I J P) : xMet l V y_AN_writeEntry 4 0 0 [xq (some 248), xi v1, xq v2] xS0 I J P (xPv Q) := xMet_of (by decide) (Nat.le_of_ble_eq_true rfl) h

abbrev G_AN_writeId (l : Launch) (V : xV) (Q : xIt → xJt → xPt → Prop) (pc : Nat) (lv : List (Nat × xX)) (st : List xX) (I : xIt) (J : xJt) (P : xPt) : Prop := xG l V y_AN_writeId (xR 2 0 0) (xFn V y_AN_writeId (xR 2 0 0) (xPv Q)) pc lv st xS0 I J P (0, 0)
set_option maxRecDepth 20000 in
theorem b_AN_writeId_0 {l : Launch} {V : xV} {Q : xIt → xJt → xPt → Prop} {I : xIt} {J : xJt} {P : xPt} (hL : xL P) {v1 : Int32} (h : ((v1 < 128 → (∃ Q1 : xIt → xJt → xPt → Prop, xMet l V y_AN_put 1 0 0 [xq (some 248), xi (v1 &&& 255)] xS0 I J P (xPv Q1) ∧ ∀ (I1 : xIt) (J1 : xJt) (P1 : xPt), Q1 I1 J1 P1 → (∃ Q2 : xIt → xJt → xPt → Prop, xMet l V y_AN_wrap 1 0 0 [xq (some 248), xi 2, xi (I 248 1)] xS0 I1 J1 P1 (xPv Q2) ∧ ∀ (I2 : xIt) (J2 : xJt) (P2 : xPt), Q2 I2 J2 P2 → Q I2 J2 P2))) ∧ (¬ v1 < 128 → (∃ Q3 : xIt → xJt → xPt → Prop, xMet l V y_AN_put 1 0 0 [xq (some 248), xi (v1 >>> (8 &&& 31))] xS0 I J P (xPv Q3) ∧ ∀ (I3 : xIt) (J3 : xJt) (P3 : xPt), Q3 I3 J3 P3 → (∃ Q4 : xIt → xJt → xPt → Prop, xMet l V y_AN_put 1 0 0 [xq (some 248), xi (v1 &&& 255)] xS0 I3 J3 P3 (xPv Q4) ∧ ∀ (I4 : xIt) (J4 : xJt) (P4 : xPt), Q4 I4 J4 P4 → (∃ Q5 : xIt → xJt → xPt → Prop, xMet l V y_AN_wrap 1 0 0 [xq (some 248), xi 2, xi (I 248 1)] xS0 I4 J4 P4 (xPv Q5) ∧ ∀ (I5 : xIt) (J5 : xJt) (P5 : xPt), Q5 I5 J5 P5 → Q I5 J5 P5)))))) : G_AN_writeId l V Q 0 [(0, xq (some 248)), (1, xi v1)] [] I J P := by
  refine xG_aload_n d_AN_writeId_0 rfl rfl rfl ?_
  refine xG_geti d_AN_writeId_1 xf_AN_15 rfl s0_248 ?_
  refine xG_istore_n (lv' := [(2, xi (I 248 1)), (0, xq (some 248)), (1, xi v1)]) d_AN_writeId_4 rfl (Nat.le_of_ble_eq_true rfl) rfl ?_
  refine xG_iload_n d_AN_writeId_5 rfl rfl ?_
  refine xG_sipush (v := 128) d_AN_writeId_6 rfl ?_
  refine xG_icmp_lt (tgt := 20) d_AN_writeId_9 (by decide) (fun c => ?_) (fun c => ?_)
  · have h := h.1 c
    refine xG_aload_n d_AN_writeId_20 rfl rfl rfl ?_
    refine xG_iload_n d_AN_writeId_21 rfl rfl ?_
    refine xG_sipush (v := 255) d_AN_writeId_22 rfl ?_
    refine xG_iand d_AN_writeId_25 ?_
    obtain ⟨Q1, hM, h⟩ := h
    refine xG_callv (as := [xi (v1 &&& 255)]) (rest := []) d_AN_writeId_26 yv_AN_put w2_125 rfl rfl rfl s0_248 (by decide) rfl hM ⟨by decide, by decide⟩ (Nat.le_of_ble_eq_true rfl) ⟨Nat.zero_le _, Nat.zero_le _⟩ (fun r S1 I1 J1 P1 hp => ?_)
    obtain ⟨rfl, hL1, rfl, hq⟩ := hp
    have h := h I1 J1 P1 hq
    refine xG_aload_n d_AN_writeId_29 rfl rfl rfl ?_
    refine xG_iconst (v := 2) d_AN_writeId_30 rfl ?_
    refine xG_iload_n d_AN_writeId_31 rfl rfl ?_
    obtain ⟨Q2, hM, h⟩ := h
    refine xG_callv (as := [xi 2, xi (I 248 1)]) (rest := []) d_AN_writeId_32 yv_AN_wrap w3_33 rfl rfl rfl s0_248 (by decide) rfl hM ⟨by decide, by decide⟩ (Nat.le_of_ble_eq_true rfl) ⟨Nat.zero_le _, Nat.zero_le _⟩ (fun r S2 I2 J2 P2 hp => ?_)
    obtain ⟨rfl, hL2, rfl, hq⟩ := hp
    have h := h I2 J2 P2 hq
    exact xG_return d_AN_writeId_35 rfl ⟨rfl, hL2, rfl, h⟩
  · have h := h.2 c
    refine xG_aload_n d_AN_writeId_12 rfl rfl rfl ?_
    refine xG_iload_n d_AN_writeId_13 rfl rfl ?_
    refine xG_bipush (v := 8) d_AN_writeId_14 rfl ?_
    refine xG_ishr d_AN_writeId_16 ?_
    obtain ⟨Q3, hM, h⟩ := h
    refine xG_callv (as := [xi (v1 >>> (8 &&& 31))]) (rest := []) d_AN_writeId_17 yv_AN_put w2_125 rfl rfl rfl s0_248 (by decide) rfl hM ⟨by decide, by decide⟩ (Nat.le_of_ble_eq_true rfl) ⟨Nat.zero_le _, Nat.zero_le _⟩ (fun r S3 I3 J3 P3 hp => ?_)
    obtain ⟨rfl, hL3, rfl, hq⟩ := hp
    have h := h I3 J3 P3 hq
    refine xG_aload_n d_AN_writeId_20 rfl rfl rfl ?_
    refine xG_iload_n d_AN_writeId_21 rfl rfl ?_
    refine xG_sipush (v := 255) d_AN_writeId_22 rfl ?_
    refine xG_iand d_AN_writeId_25 ?_
    obtain ⟨Q4, hM, h⟩ := h
    refine xG_callv (as := [xi (v1 &&& 255)]) (rest := []) d_AN_writeId_26 yv_AN_put w2_125 rfl rfl rfl s0_248 (by decide) rfl hM ⟨by decide, by decide⟩ (Nat.le_of_ble_eq_true rfl) ⟨Nat.zero_le _, Nat.zero_le _⟩ (fun r S4 I4 J4 P4 hp => ?_)
    obtain ⟨rfl, hL4, rfl, hq⟩ := hp
    have h := h I4 J4 P4 hq
    refine xG_aload_n d_AN_writeId_29 rfl rfl rfl ?_
    refine xG_iconst (v := 2) d_AN_writeId_30 rfl ?_
    refine xG_iload_n d_AN_writeId_31 rfl rfl ?_
    obtain ⟨Q5, hM, h⟩ := h
    refine xG_callv (as := [xi 2, xi (I 248 1)]) (rest := []) d_AN_writeId_32 yv_AN_wrap w3_33 rfl rfl rfl s0_248 (by decide) rfl hM ⟨by decide, by decide⟩ (Nat.le_of_ble_eq_true rfl) ⟨Nat.zero_le _, Nat.zero_le _⟩ (fun r S5 I5 J5 P5 hp => ?_)
    obtain ⟨rfl, hL5, rfl, hq⟩ := hp
    have h := h I5 J5 P5 hq
    exact xG_return d_AN_writeId_35 rfl ⟨rfl, hL5, rfl, h⟩
theorem e_AN_writeId {l : Launch} {V : xV} {Q : xIt → xJt → xPt → Prop} {I : xIt} {J : xJt} {P : xPt} {v1 : Int32} (h : G_AN_writeId l V Q 0 [(0, xq (some 248)), (1, xi v1)] [] I J P) : xMet l V y_AN_writeId 2 0 0 [xq (some 248), xi v1] xS0 I J P (xPv Q) := xMet_of (by decide) (Nat.le_of_ble_eq_true rfl) h

abbrev G_AN_writeName (l : Launch) (V : xV) (Q : xIt → xJt → xPt → Prop) (pc : Nat) (lv : List (Nat × xX)) (st : List xX) (I : xIt) (J : xJt) (P : xPt) : Prop := xG l V y_AN_writeName (xR 3 0 0) (xFn V y_AN_writeName (xR 3 0 0) (xPv Q)) pc lv st xS0 I J P (0, 0)
set_option maxRecDepth 20000 in
theorem b_AN_writeName_0 {l : Launch} {V : xV} {Q : xIt → xJt → xPt → Prop} {I : xIt} {J : xJt} {P : xPt} (hL : xL P) {v1 : Option Nat} (h : G_AN_writeName l V Q 10 [(0, xq (some 248)), (1, xq v1), (2, xi (I 248 1)), (3, xq v1), (4, xi 0)] [] I J P) : G_AN_writeName l V Q 0 [(0, xq (some 248)), (1, xq v1)] [] I J P := by
  refine xG_aload_n d_AN_writeName_0 rfl rfl rfl ?_
  refine xG_geti d_AN_writeName_1 xf_AN_15 rfl s0_248 ?_
  refine xG_istore_n (lv' := [(2, xi (I 248 1)), (0, xq (some 248)), (1, xq v1)]) d_AN_writeName_4 rfl (Nat.le_of_ble_eq_true rfl) rfl ?_
  refine xG_aload_n d_AN_writeName_5 rfl rfl rfl ?_
  refine xG_astore_n (lv' := [(3, xq v1), (2, xi (I 248 1)), (0, xq (some 248)), (1, xq v1)]) d_AN_writeName_6 rfl (Nat.le_of_ble_eq_true rfl) rfl rfl ?_
  refine xG_iconst (v := 0) d_AN_writeName_7 rfl ?_
  refine xG_istore (lv' := [(4, xi 0), (3, xq v1), (2, xi (I 248 1)), (0, xq (some 248)), (1, xq v1)]) d_AN_writeName_8 (Nat.le_of_ble_eq_true rfl) rfl ?_
  refine xG_pick [3, 4, 2, 1, 0] rfl ?_
  exact h
set_option maxRecDepth 20000 in
theorem b_AN_writeName_10 {l : Launch} {V : xV} {Q : xIt → xJt → xPt → Prop} {I : xIt} {J : xJt} {P : xPt} (hL : xL P) {v1 : Option Nat} {v2 : Int32} {v3 : Option Nat} {v4 : Int32} (h : ((3 ≤ v4 → (∃ Q1 : xIt → xJt → xPt → Prop, xMet l V y_AN_wrap 1 0 0 [xq (some 248), xi 4, xi v2] xS0 I J P (xPv Q1) ∧ ∀ (I1 : xIt) (J1 : xJt) (P1 : xPt), Q1 I1 J1 P1 → Q I1 J1 P1)) ∧ (¬ 3 ≤ v4 → ((v3 = none → (∃ Q2 : xIt → xJt → xPt → Prop, xMet l V y_AN_wrap 1 0 0 [xq (some 248), xi 4, xi v2] xS0 I J P (xPv Q2) ∧ ∀ (I2 : xIt) (J2 : xJt) (P2 : xPt), Q2 I2 J2 P2 → Q I2 J2 P2)) ∧ (¬ v3 = none → ((v4 ≤ 0 → (∃ a3 : Nat, v3 = some a3 ∧ xS0[a3]? = some (5, 0) ∧ (∃ Q4 : xIt → xJt → xPt → Prop, xMet l V y_AN_writePart 2 0 0 [xq (some 248), xi (I a3 2), xj (J a3 3)] xS0 I J P (xPv Q4) ∧ ∀ (I4 : xIt) (J4 : xJt) (P4 : xPt), Q4 I4 J4 P4 → G_AN_writeName l V Q 10 [(0, xq (some 248)), (1, xq v1), (2, xi v2), (3, xq (P4 a3 1)), (4, xi (v4 + 1))] [] I4 J4 P4))) ∧ (¬ v4 ≤ 0 → (∃ Q5 : xIt → xJt → xPt → Prop, xMet l V y_AN_put 1 0 0 [xq (some 248), xi 44] xS0 I J P (xPv Q5) ∧ ∀ (I5 : xIt) (J5 : xJt) (P5 : xPt), Q5 I5 J5 P5 → (∃ a6 : Nat, v3 = some a6 ∧ xS0[a6]? = some (5, 0) ∧ (∃ Q7 : xIt → xJt → xPt → Prop, xMet l V y_AN_writePart 2 0 0 [xq (some 248), xi (I5 a6 2), xj (J5 a6 3)] xS0 I5 J5 P5 (xPv Q7) ∧ ∀ (I7 : xIt) (J7 : xJt) (P7 : xPt), Q7 I7 J7 P7 → G_AN_writeName l V Q 10 [(0, xq (some 248)), (1, xq v1), (2, xi v2), (3, xq (P7 a6 1)), (4, xi (v4 + 1))] [] I7 J7 P7)))))))))) : G_AN_writeName l V Q 10 [(0, xq (some 248)), (1, xq v1), (2, xi v2), (3, xq v3), (4, xi v4)] [] I J P := by
  refine xG_iload d_AN_writeName_10 rfl ?_
  refine xG_iconst (v := 3) d_AN_writeName_12 rfl ?_
  refine xG_icmp_ge (tgt := 54) d_AN_writeName_13 (by decide) (fun c => ?_) (fun c => ?_)
  · have h := h.1 c
    refine xG_aload_n d_AN_writeName_54 rfl rfl rfl ?_
    refine xG_iconst (v := 4) d_AN_writeName_55 rfl ?_
    refine xG_iload_n d_AN_writeName_56 rfl rfl ?_
    obtain ⟨Q1, hM, h⟩ := h
    refine xG_callv (as := [xi 4, xi v2]) (rest := []) d_AN_writeName_57 yv_AN_wrap w3_33 rfl rfl rfl s0_248 (by decide) rfl hM ⟨by decide, by decide⟩ (Nat.le_of_ble_eq_true rfl) ⟨Nat.zero_le _, Nat.zero_le _⟩ (fun r S1 I1 J1 P1 hp => ?_)
    obtain ⟨rfl, hL1, rfl, hq⟩ := hp
    have h := h I1 J1 P1 hq
    exact xG_return d_AN_writeName_60 rfl ⟨rfl, hL1, rfl, h⟩
  · have h := h.2 c
    refine xG_aload_n d_AN_writeName_16 rfl rfl rfl ?_
    refine xG_ifnull (tgt := 54) d_AN_writeName_17 (by decide) (fun c => ?_) (fun c => ?_)
    · have h := h.1 c
      refine xG_aload_n d_AN_writeName_54 rfl rfl rfl ?_
      refine xG_iconst (v := 4) d_AN_writeName_55 rfl ?_
      refine xG_iload_n d_AN_writeName_56 rfl rfl ?_
      obtain ⟨Q2, hM, h⟩ := h
      refine xG_callv (as := [xi 4, xi v2]) (rest := []) d_AN_writeName_57 yv_AN_wrap w3_33 rfl rfl rfl s0_248 (by decide) rfl hM ⟨by decide, by decide⟩ (Nat.le_of_ble_eq_true rfl) ⟨Nat.zero_le _, Nat.zero_le _⟩ (fun r S2 I2 J2 P2 hp => ?_)
      obtain ⟨rfl, hL2, rfl, hq⟩ := hp
      have h := h I2 J2 P2 hq
      exact xG_return d_AN_writeName_60 rfl ⟨rfl, hL2, rfl, h⟩
    · have h := h.2 c
      refine xG_iload d_AN_writeName_20 rfl ?_
      refine xG_if_le (tgt := 31) d_AN_writeName_22 (by decide) (fun c => ?_) (fun c => ?_)
      · have h := h.1 c
        refine xG_aload_n d_AN_writeName_31 rfl rfl rfl ?_
        refine xG_aload_n d_AN_writeName_32 rfl rfl rfl ?_
        obtain ⟨a3, e3, s3, h⟩ := h
        refine xG_geti d_AN_writeName_33 xf_AN_54 e3 s3 ?_
        refine xG_aload_n d_AN_writeName_36 rfl rfl rfl ?_
        refine xG_getj d_AN_writeName_37 xf_AN_57 e3 s3 ?_
        obtain ⟨Q4, hM, h⟩ := h
        refine xG_callv (as := [xi (I a3 2), xj (J a3 3)]) (rest := []) d_AN_writeName_40 yv_AN_writePart w3_41 rfl rfl rfl s0_248 (by decide) rfl hM ⟨by decide, by decide⟩ (Nat.le_of_ble_eq_true rfl) ⟨Nat.zero_le _, Nat.zero_le _⟩ (fun r S4 I4 J4 P4 hp => ?_)
        obtain ⟨rfl, hL4, rfl, hq⟩ := hp
        have h := h I4 J4 P4 hq
        refine xG_aload_n d_AN_writeName_43 rfl rfl rfl ?_
        refine xG_getq d_AN_writeName_44 xf_AN_65 e3 s3 ?_
        refine xG_astore_n (lv' := [(3, xq (P4 a3 1)), (0, xq (some 248)), (1, xq v1), (2, xi v2), (4, xi v4)]) d_AN_writeName_47 rfl (Nat.le_of_ble_eq_true rfl) rfl rfl ?_
        refine xG_iinc (v := v4 + 1) (lv' := [(4, xi (v4 + 1)), (3, xq (P4 a3 1)), (0, xq (some 248)), (1, xq v1), (2, xi v2)]) d_AN_writeName_48 rfl rfl (Nat.le_of_ble_eq_true rfl) rfl ?_
        refine xG_goto (tgt := 10) d_AN_writeName_51 (by decide) ?_
        refine xG_pick [2, 3, 4, 1, 0] rfl ?_
        exact h
      · have h := h.2 c
        refine xG_aload_n d_AN_writeName_25 rfl rfl rfl ?_
        refine xG_bipush (v := 44) d_AN_writeName_26 rfl ?_
        obtain ⟨Q5, hM, h⟩ := h
        refine xG_callv (as := [xi 44]) (rest := []) d_AN_writeName_28 yv_AN_put w2_125 rfl rfl rfl s0_248 (by decide) rfl hM ⟨by decide, by decide⟩ (Nat.le_of_ble_eq_true rfl) ⟨Nat.zero_le _, Nat.zero_le _⟩ (fun r S5 I5 J5 P5 hp => ?_)
        obtain ⟨rfl, hL5, rfl, hq⟩ := hp
        have h := h I5 J5 P5 hq
        refine xG_aload_n d_AN_writeName_31 rfl rfl rfl ?_
        refine xG_aload_n d_AN_writeName_32 rfl rfl rfl ?_
        obtain ⟨a6, e6, s6, h⟩ := h
        refine xG_geti d_AN_writeName_33 xf_AN_54 e6 s6 ?_
        refine xG_aload_n d_AN_writeName_36 rfl rfl rfl ?_
        refine xG_getj d_AN_writeName_37 xf_AN_57 e6 s6 ?_
        obtain ⟨Q7, hM, h⟩ := h
        refine xG_callv (as := [xi (I5 a6 2), xj (J5 a6 3)]) (rest := []) d_AN_writeName_40 yv_AN_writePart w3_41 rfl rfl rfl s0_248 (by decide) rfl hM ⟨by decide, by decide⟩ (Nat.le_of_ble_eq_true rfl) ⟨Nat.zero_le _, Nat.zero_le _⟩ (fun r S7 I7 J7 P7 hp => ?_)
        obtain ⟨rfl, hL7, rfl, hq⟩ := hp
        have h := h I7 J7 P7 hq
        refine xG_aload_n d_AN_writeName_43 rfl rfl rfl ?_
        refine xG_getq d_AN_writeName_44 xf_AN_65 e6 s6 ?_
        refine xG_astore_n (lv' := [(3, xq (P7 a6 1)), (0, xq (some 248)), (1, xq v1), (2, xi v2), (4, xi v4)]) d_AN_writeName_47 rfl (Nat.le_of_ble_eq_true rfl) rfl rfl ?_
        refine xG_iinc (v := v4 + 1) (lv' := [(4, xi (v4 + 1)), (3, xq (P7 a6 1)), (0, xq (some 248)), (1, xq v1), (2, xi v2)]) d_AN_writeName_48 rfl rfl (Nat.le_of_ble_eq_true rfl) rfl ?_
        refine xG_goto (tgt := 10) d_AN_writeName_51 (by decide) ?_
        refine xG_pick [2, 3, 4, 1, 0] rfl ?_
        exact h
theorem e_AN_writeName {l : Launch} {V : xV} {Q : xIt → xJt → xPt → Prop} {I : xIt} {J : xJt} {P : xPt} {v1 : Option Nat} (h : G_AN_writeName l V Q 0 [(0, xq (some 248)), (1, xq v1)] [] I J P) : xMet l V y_AN_writeName 3 0 0 [xq (some 248), xq v1] xS0 I J P (xPv Q) := xMet_of (by decide) (Nat.le_of_ble_eq_true rfl) h

abbrev G_AN_writePart (l : Launch) (V : xV) (Q : xIt → xJt → xPt → Prop) (pc : Nat) (lv : List (Nat × xX)) (st : List xX) (I : xIt) (J : xJt) (P : xPt) : Prop := xG l V y_AN_writePart (xR 2 0 0) (xFn V y_AN_writePart (xR 2 0 0) (xPv Q)) pc lv st xS0 I J P (0, 0)
set_option maxRecDepth 20000 in
theorem b_AN_writePart_0 {l : Launch} {V : xV} {Q : xIt → xJt → xPt → Prop} {I : xIt} {J : xJt} {P : xPt} (hL : xL P) {v1 : Int32} {v2 : Int64} (h : (vp_in v1 5 ∧ (∃ Q1 : xIt → xJt → xPt → Prop, xMet l V y_AN_put 1 0 0 [xq (some 248), xi (xs0 v1.toNatClampNeg)] xS0 I J P (xPv Q1) ∧ ∀ (I1 : xIt) (J1 : xJt) (P1 : xPt), Q1 I1 J1 P1 → (∃ Q2 : xIt → xJt → xPt → Prop, xMet l V y_AN_put 1 0 0 [xq (some 248), xi 61] xS0 I1 J1 P1 (xPv Q2) ∧ ∀ (I2 : xIt) (J2 : xJt) (P2 : xPt), Q2 I2 J2 P2 → G_AN_writePart l V Q 18 [(0, xq (some 248)), (1, xi v1), (2, xj v2), (4, xi 0)] [] I2 J2 P2)))) : G_AN_writePart l V Q 0 [(0, xq (some 248)), (1, xi v1), (2, xj v2)] [] I J P := by
  refine xG_aload_n d_AN_writePart_0 rfl rfl rfl ?_
  refine xG_gets2 (q := ("DirectorySession", "TYPE_LETTERS", "[C")) (j := 0) (i := 1) d_AN_writePart_1 rfl rfl ?_
  refine xG_iload_n d_AN_writePart_4 rfl rfl ?_
  refine xG_tc d_AN_writePart_5 (by decide) rfl h.1 ?_
  have h := h.2
  refine xG_topi (x' := xs0 v1.toNatClampNeg) rfl ?_
  obtain ⟨Q1, hM, h⟩ := h
  refine xG_callv (as := [xi (xs0 v1.toNatClampNeg)]) (rest := []) d_AN_writePart_6 yv_AN_put w2_125 rfl rfl rfl s0_248 (by decide) rfl hM ⟨by decide, by decide⟩ (Nat.le_of_ble_eq_true rfl) ⟨Nat.zero_le _, Nat.zero_le _⟩ (fun r S1 I1 J1 P1 hp => ?_)
  obtain ⟨rfl, hL1, rfl, hq⟩ := hp
  have h := h I1 J1 P1 hq
  refine xG_aload_n d_AN_writePart_9 rfl rfl rfl ?_
  refine xG_bipush (v := 61) d_AN_writePart_10 rfl ?_
  obtain ⟨Q2, hM, h⟩ := h
  refine xG_callv (as := [xi 61]) (rest := []) d_AN_writePart_12 yv_AN_put w2_125 rfl rfl rfl s0_248 (by decide) rfl hM ⟨by decide, by decide⟩ (Nat.le_of_ble_eq_true rfl) ⟨Nat.zero_le _, Nat.zero_le _⟩ (fun r S2 I2 J2 P2 hp => ?_)
  obtain ⟨rfl, hL2, rfl, hq⟩ := hp
  have h := h I2 J2 P2 hq
  refine xG_iconst (v := 0) d_AN_writePart_15 rfl ?_
  refine xG_istore (lv' := [(4, xi 0), (0, xq (some 248)), (1, xi v1), (2, xj v2)]) d_AN_writePart_16 (Nat.le_of_ble_eq_true rfl) rfl ?_
  refine xG_pick [1, 2, 3, 0] rfl ?_
  exact h
set_option maxRecDepth 20000 in
theorem b_AN_writePart_18 {l : Launch} {V : xV} {Q : xIt → xJt → xPt → Prop} {I : xIt} {J : xJt} {P : xPt} (hL : xL P) {v1 : Int32} {v2 : Int64} {v4 : Int32} (h : (∃ Q1 : Int32 → xIt → xJt → xPt → Prop, xMet l V y_PK_sizeOf 1 0 0 [xj v2] xS0 I J P (xPi Q1) ∧ ∀ (z1 : Int32) (I1 : xIt) (J1 : xJt) (P1 : xPt), Q1 z1 I1 J1 P1 → ((z1 ≤ v4 → Q I1 J1 P1) ∧ (¬ z1 ≤ v4 → (∃ Q2 : Int32 → xIt → xJt → xPt → Prop, xMet l V y_PK_byteAt 1 0 0 [xj v2, xi v4] xS0 I1 J1 P1 (xPi Q2) ∧ ∀ (z2 : Int32) (I2 : xIt) (J2 : xJt) (P2 : xPt), Q2 z2 I2 J2 P2 → (∃ Q3 : Int32 → xIt → xJt → xPt → Prop, xMet l V y_NM_isMarked 1 0 0 [xi z2] xS0 I2 J2 P2 (xPi Q3) ∧ ∀ (z3 : Int32) (I3 : xIt) (J3 : xJt) (P3 : xPt), Q3 z3 I3 J3 P3 → ((z3 = 0 → (∃ Q4 : xIt → xJt → xPt → Prop, xMet l V y_AN_put 1 0 0 [xq (some 248), xi z2] xS0 I3 J3 P3 (xPv Q4) ∧ ∀ (I4 : xIt) (J4 : xJt) (P4 : xPt), Q4 I4 J4 P4 → G_AN_writePart l V Q 18 [(0, xq (some 248)), (1, xi v1), (2, xj v2), (4, xi (v4 + 1))] [] I4 J4 P4)) ∧ (¬ z3 = 0 → (∃ Q5 : xIt → xJt → xPt → Prop, xMet l V y_AN_put 1 0 0 [xq (some 248), xi 92] xS0 I3 J3 P3 (xPv Q5) ∧ ∀ (I5 : xIt) (J5 : xJt) (P5 : xPt), Q5 I5 J5 P5 → (∃ Q6 : xIt → xJt → xPt → Prop, xMet l V y_AN_put 1 0 0 [xq (some 248), xi z2] xS0 I5 J5 P5 (xPv Q6) ∧ ∀ (I6 : xIt) (J6 : xJt) (P6 : xPt), Q6 I6 J6 P6 → G_AN_writePart l V Q 18 [(0, xq (some 248)), (1, xi v1), (2, xj v2), (4, xi (v4 + 1))] [] I6 J6 P6)))))))))) : G_AN_writePart l V Q 18 [(0, xq (some 248)), (1, xi v1), (2, xj v2), (4, xi v4)] [] I J P := by
  refine xG_iload d_AN_writePart_18 rfl ?_
  refine xG_lload_n d_AN_writePart_20 rfl rfl ?_
  obtain ⟨Q1, hM, h⟩ := h
  refine xG_calls (as := [xj v2]) (rest := [xi v4]) d_AN_writePart_21 ys_PK_sizeOf w3_46 rfl rfl hM ⟨by decide, by decide⟩ (Nat.le_of_ble_eq_true rfl) ⟨Nat.zero_le _, Nat.zero_le _⟩ (fun r S1 I1 J1 P1 hp => ?_)
  obtain ⟨rfl, hL1, z1, rfl, hq⟩ := hp
  have h := h z1 I1 J1 P1 hq
  refine xG_icmp_ge (tgt := 61) d_AN_writePart_24 (by decide) (fun c => ?_) (fun c => ?_)
  · have h := h.1 c
    exact xG_return d_AN_writePart_61 rfl ⟨rfl, hL1, rfl, h⟩
  · have h := h.2 c
    refine xG_lload_n d_AN_writePart_27 rfl rfl ?_
    refine xG_iload d_AN_writePart_28 rfl ?_
    obtain ⟨Q2, hM, h⟩ := h
    refine xG_calls (as := [xj v2, xi v4]) (rest := []) d_AN_writePart_30 ys_PK_byteAt w3_47 rfl rfl hM ⟨by decide, by decide⟩ (Nat.le_of_ble_eq_true rfl) ⟨Nat.zero_le _, Nat.zero_le _⟩ (fun r S2 I2 J2 P2 hp => ?_)
    obtain ⟨rfl, hL2, z2, rfl, hq⟩ := hp
    have h := h z2 I2 J2 P2 hq
    refine xG_istore (lv' := [(5, xi z2), (0, xq (some 248)), (1, xi v1), (2, xj v2), (4, xi v4)]) d_AN_writePart_33 (Nat.le_of_ble_eq_true rfl) rfl ?_
    refine xG_iload d_AN_writePart_35 rfl ?_
    obtain ⟨Q3, hM, h⟩ := h
    refine xG_calls (as := [xi z2]) (rest := []) d_AN_writePart_37 ys_NM_isMarked w3_48 rfl rfl hM ⟨by decide, by decide⟩ (Nat.le_of_ble_eq_true rfl) ⟨Nat.zero_le _, Nat.zero_le _⟩ (fun r S3 I3 J3 P3 hp => ?_)
    obtain ⟨rfl, hL3, z3, rfl, hq⟩ := hp
    have h := h z3 I3 J3 P3 hq
    refine xG_if_eq (tgt := 49) d_AN_writePart_40 (by decide) (fun c => ?_) (fun c => ?_)
    · have h := h.1 c
      refine xG_aload_n d_AN_writePart_49 rfl rfl rfl ?_
      refine xG_iload d_AN_writePart_50 rfl ?_
      obtain ⟨Q4, hM, h⟩ := h
      refine xG_callv (as := [xi z2]) (rest := []) d_AN_writePart_52 yv_AN_put w2_125 rfl rfl rfl s0_248 (by decide) rfl hM ⟨by decide, by decide⟩ (Nat.le_of_ble_eq_true rfl) ⟨Nat.zero_le _, Nat.zero_le _⟩ (fun r S4 I4 J4 P4 hp => ?_)
      obtain ⟨rfl, hL4, rfl, hq⟩ := hp
      have h := h I4 J4 P4 hq
      refine xG_iinc (v := v4 + 1) (lv' := [(4, xi (v4 + 1)), (5, xi z2), (0, xq (some 248)), (1, xi v1), (2, xj v2)]) d_AN_writePart_55 rfl rfl (Nat.le_of_ble_eq_true rfl) rfl ?_
      refine xG_goto (tgt := 18) d_AN_writePart_58 (by decide) ?_
      refine xG_pick [2, 3, 4, 0] rfl ?_
      exact h
    · have h := h.2 c
      refine xG_aload_n d_AN_writePart_43 rfl rfl rfl ?_
      refine xG_bipush (v := 92) d_AN_writePart_44 rfl ?_
      obtain ⟨Q5, hM, h⟩ := h
      refine xG_callv (as := [xi 92]) (rest := []) d_AN_writePart_46 yv_AN_put w2_125 rfl rfl rfl s0_248 (by decide) rfl hM ⟨by decide, by decide⟩ (Nat.le_of_ble_eq_true rfl) ⟨Nat.zero_le _, Nat.zero_le _⟩ (fun r S5 I5 J5 P5 hp => ?_)
      obtain ⟨rfl, hL5, rfl, hq⟩ := hp
      have h := h I5 J5 P5 hq
      refine xG_aload_n d_AN_writePart_49 rfl rfl rfl ?_
      refine xG_iload d_AN_writePart_50 rfl ?_
      obtain ⟨Q6, hM, h⟩ := h
      refine xG_callv (as := [xi z2]) (rest := []) d_AN_writePart_52 yv_AN_put w2_125 rfl rfl rfl s0_248 (by decide) rfl hM ⟨by decide, by decide⟩ (Nat.le_of_ble_eq_true rfl) ⟨Nat.zero_le _, Nat.zero_le _⟩ (fun r S6 I6 J6 P6 hp => ?_)
      obtain ⟨rfl, hL6, rfl, hq⟩ := hp
      have h := h I6 J6 P6 hq
      refine xG_iinc (v := v4 + 1) (lv' := [(4, xi (v4 + 1)), (5, xi z2), (0, xq (some 248)), (1, xi v1), (2, xj v2)]) d_AN_writePart_55 rfl rfl (Nat.le_of_ble_eq_true rfl) rfl ?_
      refine xG_goto (tgt := 18) d_AN_writePart_58 (by decide) ?_
      refine xG_pick [2, 3, 4, 0] rfl ?_
      exact h
theorem e_AN_writePart {l : Launch} {V : xV} {Q : xIt → xJt → xPt → Prop} {I : xIt} {J : xJt} {P : xPt} {v1 : Int32} {v2 : Int64} (h : G_AN_writePart l V Q 0 [(0, xq (some 248)), (1, xi v1), (2, xj v2)] [] I J P) : xMet l V y_AN_writePart 2 0 0 [xq (some 248), xi v1, xj v2] xS0 I J P (xPv Q) := xMet_of (by decide) (Nat.le_of_ble_eq_true rfl) h

abbrev G_AN_writeAttribute (l : Launch) (V : xV) (Q : xIt → xJt → xPt → Prop) (pc : Nat) (lv : List (Nat × xX)) (st : List xX) (I : xIt) (J : xJt) (P : xPt) : Prop := xG l V y_AN_writeAttribute (xR 3 0 0) (xFn V y_AN_writeAttribute (xR 3 0 0) (xPv Q)) pc lv st xS0 I J P (0, 0)
set_option maxRecDepth 20000 in
theorem b_AN_writeAttribute_0 {l : Launch} {V : xV} {Q : xIt → xJt → xPt → Prop} {I : xIt} {J : xJt} {P : xPt} (hL : xL P) {v1 : Int32} {v2 : Option Nat} (h : (∃ Q1 : xIt → xJt → xPt → Prop, xMet l V y_AN_put 1 0 0 [xq (some 248), xi 4] xS0 I J P (xPv Q1) ∧ ∀ (I1 : xIt) (J1 : xJt) (P1 : xPt), Q1 I1 J1 P1 → (∃ Q2 : xIt → xJt → xPt → Prop, xMet l V y_AN_put 1 0 0 [xq (some 248), xi 1] xS0 I1 J1 P1 (xPv Q2) ∧ ∀ (I2 : xIt) (J2 : xJt) (P2 : xPt), Q2 I2 J2 P2 → (vp_in v1 5 ∧ (∃ Q3 : xIt → xJt → xPt → Prop, xMet l V y_AN_put 1 0 0 [xq (some 248), xi (xs0 v1.toNatClampNeg)] xS0 I2 J2 P2 (xPv Q3) ∧ ∀ (I3 : xIt) (J3 : xJt) (P3 : xPt), Q3 I3 J3 P3 → G_AN_writeAttribute l V Q 33 [(0, xq (some 248)), (1, xi v1), (2, xq v2), (3, xi (I 248 1)), (4, xi (I3 248 1)), (5, xi 0)] [] I3 J3 P3))))) : G_AN_writeAttribute l V Q 0 [(0, xq (some 248)), (1, xi v1), (2, xq v2)] [] I J P := by
  refine xG_aload_n d_AN_writeAttribute_0 rfl rfl rfl ?_
  refine xG_geti d_AN_writeAttribute_1 xf_AN_15 rfl s0_248 ?_
  refine xG_istore_n (lv' := [(3, xi (I 248 1)), (0, xq (some 248)), (1, xi v1), (2, xq v2)]) d_AN_writeAttribute_4 rfl (Nat.le_of_ble_eq_true rfl) rfl ?_
  refine xG_aload_n d_AN_writeAttribute_5 rfl rfl rfl ?_
  refine xG_iconst (v := 4) d_AN_writeAttribute_6 rfl ?_
  obtain ⟨Q1, hM, h⟩ := h
  refine xG_callv (as := [xi 4]) (rest := []) d_AN_writeAttribute_7 yv_AN_put w2_125 rfl rfl rfl s0_248 (by decide) rfl hM ⟨by decide, by decide⟩ (Nat.le_of_ble_eq_true rfl) ⟨Nat.zero_le _, Nat.zero_le _⟩ (fun r S1 I1 J1 P1 hp => ?_)
  obtain ⟨rfl, hL1, rfl, hq⟩ := hp
  have h := h I1 J1 P1 hq
  refine xG_aload_n d_AN_writeAttribute_10 rfl rfl rfl ?_
  refine xG_iconst (v := 1) d_AN_writeAttribute_11 rfl ?_
  obtain ⟨Q2, hM, h⟩ := h
  refine xG_callv (as := [xi 1]) (rest := []) d_AN_writeAttribute_12 yv_AN_put w2_125 rfl rfl rfl s0_248 (by decide) rfl hM ⟨by decide, by decide⟩ (Nat.le_of_ble_eq_true rfl) ⟨Nat.zero_le _, Nat.zero_le _⟩ (fun r S2 I2 J2 P2 hp => ?_)
  obtain ⟨rfl, hL2, rfl, hq⟩ := hp
  have h := h I2 J2 P2 hq
  refine xG_aload_n d_AN_writeAttribute_15 rfl rfl rfl ?_
  refine xG_gets2 (q := ("DirectorySession", "TYPE_LETTERS", "[C")) (j := 0) (i := 1) d_AN_writeAttribute_16 rfl rfl ?_
  refine xG_iload_n d_AN_writeAttribute_19 rfl rfl ?_
  refine xG_tc d_AN_writeAttribute_20 (by decide) rfl h.1 ?_
  have h := h.2
  refine xG_topi (x' := xs0 v1.toNatClampNeg) rfl ?_
  obtain ⟨Q3, hM, h⟩ := h
  refine xG_callv (as := [xi (xs0 v1.toNatClampNeg)]) (rest := []) d_AN_writeAttribute_21 yv_AN_put w2_125 rfl rfl rfl s0_248 (by decide) rfl hM ⟨by decide, by decide⟩ (Nat.le_of_ble_eq_true rfl) ⟨Nat.zero_le _, Nat.zero_le _⟩ (fun r S3 I3 J3 P3 hp => ?_)
  obtain ⟨rfl, hL3, rfl, hq⟩ := hp
  have h := h I3 J3 P3 hq
  refine xG_aload_n d_AN_writeAttribute_24 rfl rfl rfl ?_
  refine xG_geti d_AN_writeAttribute_25 xf_AN_15 rfl s0_248 ?_
  refine xG_istore (lv' := [(4, xi (I3 248 1)), (3, xi (I 248 1)), (0, xq (some 248)), (1, xi v1), (2, xq v2)]) d_AN_writeAttribute_28 (Nat.le_of_ble_eq_true rfl) rfl ?_
  refine xG_iconst (v := 0) d_AN_writeAttribute_30 rfl ?_
  refine xG_istore (lv' := [(5, xi 0), (4, xi (I3 248 1)), (3, xi (I 248 1)), (0, xq (some 248)), (1, xi v1), (2, xq v2)]) d_AN_writeAttribute_31 (Nat.le_of_ble_eq_true rfl) rfl ?_
  refine xG_pick [3, 4, 5, 2, 1, 0] rfl ?_
  exact h
set_option maxRecDepth 20000 in
theorem b_AN_writeAttribute_33 {l : Launch} {V : xV} {Q : xIt → xJt → xPt → Prop} {I : xIt} {J : xJt} {P : xPt} (hL : xL P) {v1 : Int32} {v2 : Option Nat} {v3 : Int32} {v4 : Int32} {v5 : Int32} (h : (∃ a1 : Nat, v2 = some a1 ∧ xS0[a1]? = some (6, 0) ∧ (((I a1 2) ≤ v5 → (∃ Q2 : xIt → xJt → xPt → Prop, xMet l V y_AN_wrap 1 0 0 [xq (some 248), xi 49, xi v4] xS0 I J P (xPv Q2) ∧ ∀ (I2 : xIt) (J2 : xJt) (P2 : xPt), Q2 I2 J2 P2 → (∃ Q3 : xIt → xJt → xPt → Prop, xMet l V y_AN_wrap 1 0 0 [xq (some 248), xi 48, xi v3] xS0 I2 J2 P2 (xPv Q3) ∧ ∀ (I3 : xIt) (J3 : xJt) (P3 : xPt), Q3 I3 J3 P3 → Q I3 J3 P3))) ∧ (¬ (I a1 2) ≤ v5 → (vp_in v5 (xLn (a1 + 1)) ∧ (∃ Q4 : xIt → xJt → xPt → Prop, xMet l V y_AN_writeValue 2 0 0 [xq (some 248), xj (J (a1 + 1) v5.toNatClampNeg)] xS0 I J P (xPv Q4) ∧ ∀ (I4 : xIt) (J4 : xJt) (P4 : xPt), Q4 I4 J4 P4 → G_AN_writeAttribute l V Q 33 [(0, xq (some 248)), (1, xi v1), (2, xq v2), (3, xi v3), (4, xi v4), (5, xi (v5 + 1))] [] I4 J4 P4)))))) : G_AN_writeAttribute l V Q 33 [(0, xq (some 248)), (1, xi v1), (2, xq v2), (3, xi v3), (4, xi v4), (5, xi v5)] [] I J P := by
  refine xG_iload d_AN_writeAttribute_33 rfl ?_
  refine xG_aload_n d_AN_writeAttribute_35 rfl rfl rfl ?_
  obtain ⟨a1, e1, s1, h⟩ := h
  refine xG_geti d_AN_writeAttribute_36 xf_AN_47 e1 s1 ?_
  refine xG_icmp_ge (tgt := 59) d_AN_writeAttribute_39 (by decide) (fun c => ?_) (fun c => ?_)
  · have h := h.1 c
    refine xG_aload_n d_AN_writeAttribute_59 rfl rfl rfl ?_
    refine xG_bipush (v := 49) d_AN_writeAttribute_60 rfl ?_
    refine xG_iload d_AN_writeAttribute_62 rfl ?_
    obtain ⟨Q2, hM, h⟩ := h
    refine xG_callv (as := [xi 49, xi v4]) (rest := []) d_AN_writeAttribute_64 yv_AN_wrap w3_33 rfl rfl rfl s0_248 (by decide) rfl hM ⟨by decide, by decide⟩ (Nat.le_of_ble_eq_true rfl) ⟨Nat.zero_le _, Nat.zero_le _⟩ (fun r S2 I2 J2 P2 hp => ?_)
    obtain ⟨rfl, hL2, rfl, hq⟩ := hp
    have h := h I2 J2 P2 hq
    refine xG_aload_n d_AN_writeAttribute_67 rfl rfl rfl ?_
    refine xG_bipush (v := 48) d_AN_writeAttribute_68 rfl ?_
    refine xG_iload_n d_AN_writeAttribute_70 rfl rfl ?_
    obtain ⟨Q3, hM, h⟩ := h
    refine xG_callv (as := [xi 48, xi v3]) (rest := []) d_AN_writeAttribute_71 yv_AN_wrap w3_33 rfl rfl rfl s0_248 (by decide) rfl hM ⟨by decide, by decide⟩ (Nat.le_of_ble_eq_true rfl) ⟨Nat.zero_le _, Nat.zero_le _⟩ (fun r S3 I3 J3 P3 hp => ?_)
    obtain ⟨rfl, hL3, rfl, hq⟩ := hp
    have h := h I3 J3 P3 hq
    exact xG_return d_AN_writeAttribute_74 rfl ⟨rfl, hL3, rfl, h⟩
  · have h := h.2 c
    refine xG_aload_n d_AN_writeAttribute_42 rfl rfl rfl ?_
    refine xG_aload_n d_AN_writeAttribute_43 rfl rfl rfl ?_
    refine xG_getq d_AN_writeAttribute_44 xf_AN_89 e1 s1 ?_
    refine xG_iload d_AN_writeAttribute_47 rfl ?_
    refine xG_lald d_AN_writeAttribute_49 (lo_6_0 hL s1) (so_6_0 s1) h.1 ?_
    have h := h.2
    obtain ⟨Q4, hM, h⟩ := h
    refine xG_callv (as := [xj (J (a1 + 1) v5.toNatClampNeg)]) (rest := []) d_AN_writeAttribute_50 yv_AN_writeValue w3_53 rfl rfl rfl s0_248 (by decide) rfl hM ⟨by decide, by decide⟩ (Nat.le_of_ble_eq_true rfl) ⟨Nat.zero_le _, Nat.zero_le _⟩ (fun r S4 I4 J4 P4 hp => ?_)
    obtain ⟨rfl, hL4, rfl, hq⟩ := hp
    have h := h I4 J4 P4 hq
    refine xG_iinc (v := v5 + 1) (lv' := [(5, xi (v5 + 1)), (0, xq (some 248)), (1, xi v1), (2, xq v2), (3, xi v3), (4, xi v4)]) d_AN_writeAttribute_53 rfl rfl (Nat.le_of_ble_eq_true rfl) rfl ?_
    refine xG_goto (tgt := 33) d_AN_writeAttribute_56 (by decide) ?_
    refine xG_pick [1, 2, 3, 4, 5, 0] rfl ?_
    exact h
theorem e_AN_writeAttribute {l : Launch} {V : xV} {Q : xIt → xJt → xPt → Prop} {I : xIt} {J : xJt} {P : xPt} {v1 : Int32} {v2 : Option Nat} (h : G_AN_writeAttribute l V Q 0 [(0, xq (some 248)), (1, xi v1), (2, xq v2)] [] I J P) : xMet l V y_AN_writeAttribute 3 0 0 [xq (some 248), xi v1, xq v2] xS0 I J P (xPv Q) := xMet_of (by decide) (Nat.le_of_ble_eq_true rfl) h

abbrev G_AN_writeValue (l : Launch) (V : xV) (Q : xIt → xJt → xPt → Prop) (pc : Nat) (lv : List (Nat × xX)) (st : List xX) (I : xIt) (J : xJt) (P : xPt) : Prop := xG l V y_AN_writeValue (xR 2 0 0) (xFn V y_AN_writeValue (xR 2 0 0) (xPv Q)) pc lv st xS0 I J P (0, 0)
set_option maxRecDepth 20000 in
theorem b_AN_writeValue_0 {l : Launch} {V : xV} {Q : xIt → xJt → xPt → Prop} {I : xIt} {J : xJt} {P : xPt} (hL : xL P) {v1 : Int64} (h : (∃ Q1 : xIt → xJt → xPt → Prop, xMet l V y_AN_put 1 0 0 [xq (some 248), xi 4] xS0 I J P (xPv Q1) ∧ ∀ (I1 : xIt) (J1 : xJt) (P1 : xPt), Q1 I1 J1 P1 → (∃ Q2 : Int32 → xIt → xJt → xPt → Prop, xMet l V y_PK_sizeOf 1 0 0 [xj v1] xS0 I1 J1 P1 (xPi Q2) ∧ ∀ (z2 : Int32) (I2 : xIt) (J2 : xJt) (P2 : xPt), Q2 z2 I2 J2 P2 → (∃ Q3 : xIt → xJt → xPt → Prop, xMet l V y_AN_put 1 0 0 [xq (some 248), xi z2] xS0 I2 J2 P2 (xPv Q3) ∧ ∀ (I3 : xIt) (J3 : xJt) (P3 : xPt), Q3 I3 J3 P3 → G_AN_writeValue l V Q 15 [(0, xq (some 248)), (1, xj v1), (3, xi 0)] [] I3 J3 P3)))) : G_AN_writeValue l V Q 0 [(0, xq (some 248)), (1, xj v1)] [] I J P := by
  refine xG_aload_n d_AN_writeValue_0 rfl rfl rfl ?_
  refine xG_iconst (v := 4) d_AN_writeValue_1 rfl ?_
  obtain ⟨Q1, hM, h⟩ := h
  refine xG_callv (as := [xi 4]) (rest := []) d_AN_writeValue_2 yv_AN_put w2_125 rfl rfl rfl s0_248 (by decide) rfl hM ⟨by decide, by decide⟩ (Nat.le_of_ble_eq_true rfl) ⟨Nat.zero_le _, Nat.zero_le _⟩ (fun r S1 I1 J1 P1 hp => ?_)
  obtain ⟨rfl, hL1, rfl, hq⟩ := hp
  have h := h I1 J1 P1 hq
  refine xG_aload_n d_AN_writeValue_5 rfl rfl rfl ?_
  refine xG_lload_n d_AN_writeValue_6 rfl rfl ?_
  obtain ⟨Q2, hM, h⟩ := h
  refine xG_calls (as := [xj v1]) (rest := [xq (some 248)]) d_AN_writeValue_7 ys_PK_sizeOf w3_46 rfl rfl hM ⟨by decide, by decide⟩ (Nat.le_of_ble_eq_true rfl) ⟨Nat.zero_le _, Nat.zero_le _⟩ (fun r S2 I2 J2 P2 hp => ?_)
  obtain ⟨rfl, hL2, z2, rfl, hq⟩ := hp
  have h := h z2 I2 J2 P2 hq
  obtain ⟨Q3, hM, h⟩ := h
  refine xG_callv (as := [xi z2]) (rest := []) d_AN_writeValue_10 yv_AN_put w2_125 rfl rfl rfl s0_248 (by decide) rfl hM ⟨by decide, by decide⟩ (Nat.le_of_ble_eq_true rfl) ⟨Nat.zero_le _, Nat.zero_le _⟩ (fun r S3 I3 J3 P3 hp => ?_)
  obtain ⟨rfl, hL3, rfl, hq⟩ := hp
  have h := h I3 J3 P3 hq
  refine xG_iconst (v := 0) d_AN_writeValue_13 rfl ?_
  refine xG_istore_n (lv' := [(3, xi 0), (0, xq (some 248)), (1, xj v1)]) d_AN_writeValue_14 rfl (Nat.le_of_ble_eq_true rfl) rfl ?_
  refine xG_pick [1, 2, 0] rfl ?_
  exact h
set_option maxRecDepth 20000 in
theorem b_AN_writeValue_15 {l : Launch} {V : xV} {Q : xIt → xJt → xPt → Prop} {I : xIt} {J : xJt} {P : xPt} (hL : xL P) {v1 : Int64} {v3 : Int32} (h : (∃ Q1 : Int32 → xIt → xJt → xPt → Prop, xMet l V y_PK_sizeOf 1 0 0 [xj v1] xS0 I J P (xPi Q1) ∧ ∀ (z1 : Int32) (I1 : xIt) (J1 : xJt) (P1 : xPt), Q1 z1 I1 J1 P1 → ((z1 ≤ v3 → Q I1 J1 P1) ∧ (¬ z1 ≤ v3 → (∃ Q2 : Int32 → xIt → xJt → xPt → Prop, xMet l V y_PK_byteAt 1 0 0 [xj v1, xi v3] xS0 I1 J1 P1 (xPi Q2) ∧ ∀ (z2 : Int32) (I2 : xIt) (J2 : xJt) (P2 : xPt), Q2 z2 I2 J2 P2 → (∃ Q3 : xIt → xJt → xPt → Prop, xMet l V y_AN_put 1 0 0 [xq (some 248), xi z2] xS0 I2 J2 P2 (xPv Q3) ∧ ∀ (I3 : xIt) (J3 : xJt) (P3 : xPt), Q3 I3 J3 P3 → G_AN_writeValue l V Q 15 [(0, xq (some 248)), (1, xj v1), (3, xi (v3 + 1))] [] I3 J3 P3)))))) : G_AN_writeValue l V Q 15 [(0, xq (some 248)), (1, xj v1), (3, xi v3)] [] I J P := by
  refine xG_iload_n d_AN_writeValue_15 rfl rfl ?_
  refine xG_lload_n d_AN_writeValue_16 rfl rfl ?_
  obtain ⟨Q1, hM, h⟩ := h
  refine xG_calls (as := [xj v1]) (rest := [xi v3]) d_AN_writeValue_17 ys_PK_sizeOf w3_46 rfl rfl hM ⟨by decide, by decide⟩ (Nat.le_of_ble_eq_true rfl) ⟨Nat.zero_le _, Nat.zero_le _⟩ (fun r S1 I1 J1 P1 hp => ?_)
  obtain ⟨rfl, hL1, z1, rfl, hq⟩ := hp
  have h := h z1 I1 J1 P1 hq
  refine xG_icmp_ge (tgt := 38) d_AN_writeValue_20 (by decide) (fun c => ?_) (fun c => ?_)
  · have h := h.1 c
    exact xG_return d_AN_writeValue_38 rfl ⟨rfl, hL1, rfl, h⟩
  · have h := h.2 c
    refine xG_aload_n d_AN_writeValue_23 rfl rfl rfl ?_
    refine xG_lload_n d_AN_writeValue_24 rfl rfl ?_
    refine xG_iload_n d_AN_writeValue_25 rfl rfl ?_
    obtain ⟨Q2, hM, h⟩ := h
    refine xG_calls (as := [xj v1, xi v3]) (rest := [xq (some 248)]) d_AN_writeValue_26 ys_PK_byteAt w3_47 rfl rfl hM ⟨by decide, by decide⟩ (Nat.le_of_ble_eq_true rfl) ⟨Nat.zero_le _, Nat.zero_le _⟩ (fun r S2 I2 J2 P2 hp => ?_)
    obtain ⟨rfl, hL2, z2, rfl, hq⟩ := hp
    have h := h z2 I2 J2 P2 hq
    obtain ⟨Q3, hM, h⟩ := h
    refine xG_callv (as := [xi z2]) (rest := []) d_AN_writeValue_29 yv_AN_put w2_125 rfl rfl rfl s0_248 (by decide) rfl hM ⟨by decide, by decide⟩ (Nat.le_of_ble_eq_true rfl) ⟨Nat.zero_le _, Nat.zero_le _⟩ (fun r S3 I3 J3 P3 hp => ?_)
    obtain ⟨rfl, hL3, rfl, hq⟩ := hp
    have h := h I3 J3 P3 hq
    refine xG_iinc (v := v3 + 1) (lv' := [(3, xi (v3 + 1)), (0, xq (some 248)), (1, xj v1)]) d_AN_writeValue_32 rfl rfl (Nat.le_of_ble_eq_true rfl) rfl ?_
    refine xG_goto (tgt := 15) d_AN_writeValue_35 (by decide) ?_
    refine xG_pick [1, 2, 0] rfl ?_
    exact h
theorem e_AN_writeValue {l : Launch} {V : xV} {Q : xIt → xJt → xPt → Prop} {I : xIt} {J : xJt} {P : xPt} {v1 : Int64} (h : G_AN_writeValue l V Q 0 [(0, xq (some 248)), (1, xj v1)] [] I J P) : xMet l V y_AN_writeValue 2 0 0 [xq (some 248), xj v1] xS0 I J P (xPv Q) := xMet_of (by decide) (Nat.le_of_ble_eq_true rfl) h

abbrev G_AN_put (l : Launch) (V : xV) (Q : xIt → xJt → xPt → Prop) (pc : Nat) (lv : List (Nat × xX)) (st : List xX) (I : xIt) (J : xJt) (P : xPt) : Prop := xG l V y_AN_put (xR 1 0 0) (xFn V y_AN_put (xR 1 0 0) (xPv Q)) pc lv st xS0 I J P (0, 0)
set_option maxRecDepth 20000 in
theorem b_AN_put_0 {l : Launch} {V : xV} {Q : xIt → xJt → xPt → Prop} {I : xIt} {J : xJt} {P : xPt} (hL : xL P) {v1 : Int32} (h : ((1767 ≤ (I 248 1) → Q I J P) ∧ (¬ 1767 ≤ (I 248 1) → (vp_in (I 248 1) 1767 ∧ Q (xu (xu I 249 ((I 248 1).toNatClampNeg) v1) 248 1 ((I 248 1) + 1)) J P)))) : G_AN_put l V Q 0 [(0, xq (some 248)), (1, xi v1)] [] I J P := by
  refine xG_aload_n d_AN_put_0 rfl rfl rfl ?_
  refine xG_geti d_AN_put_1 xf_AN_15 rfl s0_248 ?_
  refine xG_sipush (v := 1767) d_AN_put_4 rfl ?_
  refine xG_icmp_ge (tgt := 30) d_AN_put_7 (by decide) (fun c => ?_) (fun c => ?_)
  · have h := h.1 c
    exact xG_return d_AN_put_30 rfl ⟨rfl, hL, rfl, h⟩
  · have h := h.2 c
    refine xG_aload_n d_AN_put_10 rfl rfl rfl ?_
    refine xG_getq d_AN_put_11 xf_AN_11 rfl s0_248 ?_
    refine xG_aload_n d_AN_put_14 rfl rfl rfl ?_
    refine xG_geti d_AN_put_15 xf_AN_15 rfl s0_248 ?_
    refine xG_iload_n d_AN_put_18 rfl rfl ?_
    refine xG_iast d_AN_put_19 (lp_248_0 hL) s0_249 h.1 ?_
    have h := h.2
    refine xG_aload_n d_AN_put_20 rfl rfl rfl ?_
    refine xG_dup d_AN_put_21 rfl ?_
    refine xG_geti d_AN_put_22 xf_AN_15 rfl s0_248 ?_
    refine xG_topi (x' := I 248 1) (by first | rfl | exact xu_at | simp [xu]) ?_
    refine xG_iconst (v := 1) d_AN_put_25 rfl ?_
    refine xG_iadd d_AN_put_26 ?_
    refine xG_puti d_AN_put_27 xf_AN_15 (Or.inl rfl) rfl s0_248 rfl rfl ?_
    exact xG_return d_AN_put_30 rfl ⟨rfl, hL, rfl, h⟩
theorem e_AN_put {l : Launch} {V : xV} {Q : xIt → xJt → xPt → Prop} {I : xIt} {J : xJt} {P : xPt} {v1 : Int32} (h : G_AN_put l V Q 0 [(0, xq (some 248)), (1, xi v1)] [] I J P) : xMet l V y_AN_put 1 0 0 [xq (some 248), xi v1] xS0 I J P (xPv Q) := xMet_of (by decide) (Nat.le_of_ble_eq_true rfl) h

abbrev G_AN_wrap (l : Launch) (V : xV) (Q : xIt → xJt → xPt → Prop) (pc : Nat) (lv : List (Nat × xX)) (st : List xX) (I : xIt) (J : xJt) (P : xPt) : Prop := xG l V y_AN_wrap (xR 1 0 0) (xFn V y_AN_wrap (xR 1 0 0) (xPv Q)) pc lv st xS0 I J P (0, 0)
set_option maxRecDepth 20000 in
theorem b_AN_wrap_0 {l : Launch} {V : xV} {Q : xIt → xJt → xPt → Prop} {I : xIt} {J : xJt} {P : xPt} (hL : xL P) {v1 : Int32} {v2 : Int32} (h : ((128 ≤ ((I 248 1) - v2) → ((((I 248 1) + 3) ≤ 1767 → G_AN_wrap l V Q 43 [(0, xq (some 248)), (1, xi v1), (2, xi v2), (3, xi ((I 248 1) - v2)), (4, xi 3), (5, xi ((I 248 1) - 1))] [] I J P) ∧ (¬ ((I 248 1) + 3) ≤ 1767 → Q I J P))) ∧ (¬ 128 ≤ ((I 248 1) - v2) → ((((I 248 1) + 2) ≤ 1767 → G_AN_wrap l V Q 43 [(0, xq (some 248)), (1, xi v1), (2, xi v2), (3, xi ((I 248 1) - v2)), (4, xi 2), (5, xi ((I 248 1) - 1))] [] I J P) ∧ (¬ ((I 248 1) + 2) ≤ 1767 → Q I J P))))) : G_AN_wrap l V Q 0 [(0, xq (some 248)), (1, xi v1), (2, xi v2)] [] I J P := by
  refine xG_aload_n d_AN_wrap_0 rfl rfl rfl ?_
  refine xG_geti d_AN_wrap_1 xf_AN_15 rfl s0_248 ?_
  refine xG_iload_n d_AN_wrap_4 rfl rfl ?_
  refine xG_isub d_AN_wrap_5 ?_
  refine xG_istore_n (lv' := [(3, xi ((I 248 1) - v2)), (0, xq (some 248)), (1, xi v1), (2, xi v2)]) d_AN_wrap_6 rfl (Nat.le_of_ble_eq_true rfl) rfl ?_
  refine xG_iload_n d_AN_wrap_7 rfl rfl ?_
  refine xG_sipush (v := 128) d_AN_wrap_8 rfl ?_
  refine xG_icmp_ge (tgt := 18) d_AN_wrap_11 (by decide) (fun c => ?_) (fun c => ?_)
  · have h := h.1 c
    refine xG_iconst (v := 3) d_AN_wrap_18 rfl ?_
    refine xG_istore (lv' := [(4, xi 3), (3, xi ((I 248 1) - v2)), (0, xq (some 248)), (1, xi v1), (2, xi v2)]) d_AN_wrap_19 (Nat.le_of_ble_eq_true rfl) rfl ?_
    refine xG_aload_n d_AN_wrap_21 rfl rfl rfl ?_
    refine xG_geti d_AN_wrap_22 xf_AN_15 rfl s0_248 ?_
    refine xG_iload d_AN_wrap_25 rfl ?_
    refine xG_iadd d_AN_wrap_27 ?_
    refine xG_sipush (v := 1767) d_AN_wrap_28 rfl ?_
    refine xG_icmp_le (tgt := 35) d_AN_wrap_31 (by decide) (fun c => ?_) (fun c => ?_)
    · have h := h.1 c
      refine xG_aload_n d_AN_wrap_35 rfl rfl rfl ?_
      refine xG_geti d_AN_wrap_36 xf_AN_15 rfl s0_248 ?_
      refine xG_iconst (v := 1) d_AN_wrap_39 rfl ?_
      refine xG_isub d_AN_wrap_40 ?_
      refine xG_istore (lv' := [(5, xi ((I 248 1) - 1)), (4, xi 3), (3, xi ((I 248 1) - v2)), (0, xq (some 248)), (1, xi v1), (2, xi v2)]) d_AN_wrap_41 (Nat.le_of_ble_eq_true rfl) rfl ?_
      refine xG_pick [3, 4, 5, 2, 1, 0] rfl ?_
      exact h
    · have h := h.2 c
      exact xG_return d_AN_wrap_34 rfl ⟨rfl, hL, rfl, h⟩
  · have h := h.2 c
    refine xG_iconst (v := 2) d_AN_wrap_14 rfl ?_
    refine xG_goto (tgt := 19) d_AN_wrap_15 (by decide) ?_
    refine xG_istore (lv' := [(4, xi 2), (3, xi ((I 248 1) - v2)), (0, xq (some 248)), (1, xi v1), (2, xi v2)]) d_AN_wrap_19 (Nat.le_of_ble_eq_true rfl) rfl ?_
    refine xG_aload_n d_AN_wrap_21 rfl rfl rfl ?_
    refine xG_geti d_AN_wrap_22 xf_AN_15 rfl s0_248 ?_
    refine xG_iload d_AN_wrap_25 rfl ?_
    refine xG_iadd d_AN_wrap_27 ?_
    refine xG_sipush (v := 1767) d_AN_wrap_28 rfl ?_
    refine xG_icmp_le (tgt := 35) d_AN_wrap_31 (by decide) (fun c => ?_) (fun c => ?_)
    · have h := h.1 c
      refine xG_aload_n d_AN_wrap_35 rfl rfl rfl ?_
      refine xG_geti d_AN_wrap_36 xf_AN_15 rfl s0_248 ?_
      refine xG_iconst (v := 1) d_AN_wrap_39 rfl ?_
      refine xG_isub d_AN_wrap_40 ?_
      refine xG_istore (lv' := [(5, xi ((I 248 1) - 1)), (4, xi 2), (3, xi ((I 248 1) - v2)), (0, xq (some 248)), (1, xi v1), (2, xi v2)]) d_AN_wrap_41 (Nat.le_of_ble_eq_true rfl) rfl ?_
      refine xG_pick [3, 4, 5, 2, 1, 0] rfl ?_
      exact h
    · have h := h.2 c
      exact xG_return d_AN_wrap_34 rfl ⟨rfl, hL, rfl, h⟩
set_option maxRecDepth 20000 in
theorem b_AN_wrap_43 {l : Launch} {V : xV} {Q : xIt → xJt → xPt → Prop} {I : xIt} {J : xJt} {P : xPt} (hL : xL P) {v1 : Int32} {v2 : Int32} {v3 : Int32} {v4 : Int32} {v5 : Int32} (h : ((v5 < v2 → (vp_in v2 1767 ∧ ((¬ v4 = 2 → (vp_in (v2 + 1) 1767 ∧ ((¬ v4 = 3 → Q (xu (xu (xu I 248 1 ((I 248 1) + v4)) 249 v2.toNatClampNeg v1) 249 ((v2 + 1).toNatClampNeg) 129) J P) ∧ (v4 = 3 → (vp_in (v2 + 2) 1767 ∧ Q (xu (xu (xu (xu I 248 1 ((I 248 1) + v4)) 249 v2.toNatClampNeg v1) 249 ((v2 + 1).toNatClampNeg) 129) 249 ((v2 + 2).toNatClampNeg) v3) J P))))) ∧ (v4 = 2 → (vp_in (v2 + 1) 1767 ∧ ((¬ v4 = 3 → Q (xu (xu (xu I 248 1 ((I 248 1) + v4)) 249 v2.toNatClampNeg v1) 249 ((v2 + 1).toNatClampNeg) v3) J P) ∧ (v4 = 3 → (vp_in (v2 + 2) 1767 ∧ Q (xu (xu (xu (xu I 248 1 ((I 248 1) + v4)) 249 v2.toNatClampNeg v1) 249 ((v2 + 1).toNatClampNeg) v3) 249 ((v2 + 2).toNatClampNeg) v3) J P)))))))) ∧ (¬ v5 < v2 → (vp_in v5 1767 ∧ (vp_in (v5 + v4) 1767 ∧ G_AN_wrap l V Q 43 [(0, xq (some 248)), (1, xi v1), (2, xi v2), (3, xi v3), (4, xi v4), (5, xi (v5 + (-1)))] [] (xu I 249 ((v5 + v4).toNatClampNeg) (I 249 v5.toNatClampNeg)) J P))))) : G_AN_wrap l V Q 43 [(0, xq (some 248)), (1, xi v1), (2, xi v2), (3, xi v3), (4, xi v4), (5, xi v5)] [] I J P := by
  refine xG_iload d_AN_wrap_43 rfl ?_
  refine xG_iload_n d_AN_wrap_45 rfl rfl ?_
  refine xG_icmp_lt (tgt := 72) d_AN_wrap_46 (by decide) (fun c => ?_) (fun c => ?_)
  · have h := h.1 c
    refine xG_aload_n d_AN_wrap_72 rfl rfl rfl ?_
    refine xG_dup d_AN_wrap_73 rfl ?_
    refine xG_geti d_AN_wrap_74 xf_AN_15 rfl s0_248 ?_
    refine xG_iload d_AN_wrap_77 rfl ?_
    refine xG_iadd d_AN_wrap_79 ?_
    refine xG_puti d_AN_wrap_80 xf_AN_15 (Or.inl rfl) rfl s0_248 rfl rfl ?_
    refine xG_aload_n d_AN_wrap_83 rfl rfl rfl ?_
    refine xG_getq d_AN_wrap_84 xf_AN_11 rfl s0_248 ?_
    refine xG_iload_n d_AN_wrap_87 rfl rfl ?_
    refine xG_iload_n d_AN_wrap_88 rfl rfl ?_
    refine xG_iast d_AN_wrap_89 (lp_248_0 hL) s0_249 h.1 ?_
    have h := h.2
    refine xG_aload_n d_AN_wrap_90 rfl rfl rfl ?_
    refine xG_getq d_AN_wrap_91 xf_AN_11 rfl s0_248 ?_
    refine xG_iload_n d_AN_wrap_94 rfl rfl ?_
    refine xG_iconst (v := 1) d_AN_wrap_95 rfl ?_
    refine xG_iadd d_AN_wrap_96 ?_
    refine xG_iload d_AN_wrap_97 rfl ?_
    refine xG_iconst (v := 2) d_AN_wrap_99 rfl ?_
    refine xG_icmp_ne (tgt := 107) d_AN_wrap_100 (by decide) (fun c => ?_) (fun c => ?_)
    · have h := h.1 c
      refine xG_sipush (v := 129) d_AN_wrap_107 rfl ?_
      refine xG_iast d_AN_wrap_110 (lp_248_0 hL) s0_249 h.1 ?_
      have h := h.2
      refine xG_iload d_AN_wrap_111 rfl ?_
      refine xG_iconst (v := 3) d_AN_wrap_113 rfl ?_
      refine xG_icmp_ne (tgt := 126) d_AN_wrap_114 (by decide) (fun c => ?_) (fun c => ?_)
      · have h := h.1 c
        exact xG_return d_AN_wrap_126 rfl ⟨rfl, hL, rfl, h⟩
      · have h := h.2 c
        refine xG_aload_n d_AN_wrap_117 rfl rfl rfl ?_
        refine xG_getq d_AN_wrap_118 xf_AN_11 rfl s0_248 ?_
        refine xG_iload_n d_AN_wrap_121 rfl rfl ?_
        refine xG_iconst (v := 2) d_AN_wrap_122 rfl ?_
        refine xG_iadd d_AN_wrap_123 ?_
        refine xG_iload_n d_AN_wrap_124 rfl rfl ?_
        refine xG_iast d_AN_wrap_125 (lp_248_0 hL) s0_249 h.1 ?_
        have h := h.2
        exact xG_return d_AN_wrap_126 rfl ⟨rfl, hL, rfl, h⟩
    · have h := h.2 c
      refine xG_iload_n d_AN_wrap_103 rfl rfl ?_
      refine xG_goto (tgt := 110) d_AN_wrap_104 (by decide) ?_
      refine xG_iast d_AN_wrap_110 (lp_248_0 hL) s0_249 h.1 ?_
      have h := h.2
      refine xG_iload d_AN_wrap_111 rfl ?_
      refine xG_iconst (v := 3) d_AN_wrap_113 rfl ?_
      refine xG_icmp_ne (tgt := 126) d_AN_wrap_114 (by decide) (fun c => ?_) (fun c => ?_)
      · have h := h.1 c
        exact xG_return d_AN_wrap_126 rfl ⟨rfl, hL, rfl, h⟩
      · have h := h.2 c
        refine xG_aload_n d_AN_wrap_117 rfl rfl rfl ?_
        refine xG_getq d_AN_wrap_118 xf_AN_11 rfl s0_248 ?_
        refine xG_iload_n d_AN_wrap_121 rfl rfl ?_
        refine xG_iconst (v := 2) d_AN_wrap_122 rfl ?_
        refine xG_iadd d_AN_wrap_123 ?_
        refine xG_iload_n d_AN_wrap_124 rfl rfl ?_
        refine xG_iast d_AN_wrap_125 (lp_248_0 hL) s0_249 h.1 ?_
        have h := h.2
        exact xG_return d_AN_wrap_126 rfl ⟨rfl, hL, rfl, h⟩
  · have h := h.2 c
    refine xG_aload_n d_AN_wrap_49 rfl rfl rfl ?_
    refine xG_getq d_AN_wrap_50 xf_AN_11 rfl s0_248 ?_
    refine xG_iload d_AN_wrap_53 rfl ?_
    refine xG_iload d_AN_wrap_55 rfl ?_
    refine xG_iadd d_AN_wrap_57 ?_
    refine xG_aload_n d_AN_wrap_58 rfl rfl rfl ?_
    refine xG_getq d_AN_wrap_59 xf_AN_11 rfl s0_248 ?_
    refine xG_iload d_AN_wrap_62 rfl ?_
    refine xG_iald d_AN_wrap_64 (lp_248_0 hL) s0_249 h.1 ?_
    have h := h.2
    refine xG_iast d_AN_wrap_65 (lp_248_0 hL) s0_249 h.1 ?_
    have h := h.2
    refine xG_iinc (v := v5 + (-1)) (lv' := [(5, xi (v5 + (-1))), (0, xq (some 248)), (1, xi v1), (2, xi v2), (3, xi v3), (4, xi v4)]) d_AN_wrap_66 rfl rfl (Nat.le_of_ble_eq_true rfl) rfl ?_
    refine xG_goto (tgt := 43) d_AN_wrap_69 (by decide) ?_
    refine xG_pick [1, 2, 3, 4, 5, 0] rfl ?_
    exact h
theorem e_AN_wrap {l : Launch} {V : xV} {Q : xIt → xJt → xPt → Prop} {I : xIt} {J : xJt} {P : xPt} {v1 : Int32} {v2 : Int32} (h : G_AN_wrap l V Q 0 [(0, xq (some 248)), (1, xi v1), (2, xi v2)] [] I J P) : xMet l V y_AN_wrap 1 0 0 [xq (some 248), xi v1, xi v2] xS0 I J P (xPv Q) := xMet_of (by decide) (Nat.le_of_ble_eq_true rfl) h

abbrev G_RQ_isEmpty (l : Launch) (V : xV) (Q : Int32 → xIt → xJt → xPt → Prop) (pc : Nat) (lv : List (Nat × xX)) (st : List xX) (I : xIt) (J : xJt) (P : xPt) : Prop := xG l V y_RQ_isEmpty (xR 1 0 0) (xFn V y_RQ_isEmpty (xR 1 0 0) (xPi Q)) pc lv st xS0 I J P (0, 0)
set_option maxRecDepth 20000 in
theorem b_RQ_isEmpty_0 {l : Launch} {V : xV} {Q : Int32 → xIt → xJt → xPt → Prop} {I : xIt} {J : xJt} {P : xPt} (hL : xL P) {v1 : Int32} (h : (vp_in v1 75 ∧ (vp_in v1 75 ∧ ((¬ (I 3 v1.toNatClampNeg) = (I 4 v1.toNatClampNeg) → Q 0 I J P) ∧ ((I 3 v1.toNatClampNeg) = (I 4 v1.toNatClampNeg) → Q 1 I J P))))) : G_RQ_isEmpty l V Q 0 [(0, xq (some 1)), (1, xi v1)] [] I J P := by
  refine xG_aload_n d_RQ_isEmpty_0 rfl rfl rfl ?_
  refine xG_getq d_RQ_isEmpty_1 xf_RQ_35 rfl s0_1 ?_
  refine xG_iload_n d_RQ_isEmpty_4 rfl rfl ?_
  refine xG_iald d_RQ_isEmpty_5 (lp_1_7 hL) s0_3 h.1 ?_
  have h := h.2
  refine xG_aload_n d_RQ_isEmpty_6 rfl rfl rfl ?_
  refine xG_getq d_RQ_isEmpty_7 xf_RQ_38 rfl s0_1 ?_
  refine xG_iload_n d_RQ_isEmpty_10 rfl rfl ?_
  refine xG_iald d_RQ_isEmpty_11 (lp_1_8 hL) s0_4 h.1 ?_
  have h := h.2
  refine xG_icmp_ne (tgt := 19) d_RQ_isEmpty_12 (by decide) (fun c => ?_) (fun c => ?_)
  · have h := h.1 c
    refine xG_iconst (v := 0) d_RQ_isEmpty_19 rfl ?_
    exact xG_ireturn d_RQ_isEmpty_20 rfl rfl ⟨rfl, hL, _, rfl, h⟩
  · have h := h.2 c
    refine xG_iconst (v := 1) d_RQ_isEmpty_15 rfl ?_
    refine xG_goto (tgt := 20) d_RQ_isEmpty_16 (by decide) ?_
    exact xG_ireturn d_RQ_isEmpty_20 rfl rfl ⟨rfl, hL, _, rfl, h⟩
theorem e_RQ_isEmpty {l : Launch} {V : xV} {Q : Int32 → xIt → xJt → xPt → Prop} {I : xIt} {J : xJt} {P : xPt} {v1 : Int32} (h : G_RQ_isEmpty l V Q 0 [(0, xq (some 1)), (1, xi v1)] [] I J P) : xMet l V y_RQ_isEmpty 1 0 0 [xq (some 1), xi v1] xS0 I J P (xPi Q) := xMet_of (by decide) (Nat.le_of_ble_eq_true rfl) h

abbrev G_RQ_packed (l : Launch) (V : xV) (Q : Int64 → xIt → xJt → xPt → Prop) (pc : Nat) (lv : List (Nat × xX)) (st : List xX) (I : xIt) (J : xJt) (P : xPt) : Prop := xG l V y_RQ_packed (xR 3 0 0) (xFn V y_RQ_packed (xR 3 0 0) (xPl Q)) pc lv st xS0 I J P (0, 0)
set_option maxRecDepth 20000 in
theorem b_RQ_packed_0 {l : Launch} {V : xV} {Q : Int64 → xIt → xJt → xPt → Prop} {I : xIt} {J : xJt} {P : xPt} (hL : xL P) {v1 : Int32} (h : (vp_in v1 75 ∧ (vp_in v1 75 ∧ (∃ Q1 : Int64 → xIt → xJt → xPt → Prop, xMet l V y_PK_of 2 0 0 [xq (P 1 0), xi (I 3 v1.toNatClampNeg), xi (I 4 v1.toNatClampNeg)] xS0 I J P (xPl Q1) ∧ ∀ (z1 : Int64) (I1 : xIt) (J1 : xJt) (P1 : xPt), Q1 z1 I1 J1 P1 → Q z1 I1 J1 P1)))) : G_RQ_packed l V Q 0 [(0, xq (some 1)), (1, xi v1)] [] I J P := by
  refine xG_aload_n d_RQ_packed_0 rfl rfl rfl ?_
  refine xG_getq d_RQ_packed_1 xf_RQ_9 rfl s0_1 ?_
  refine xG_aload_n d_RQ_packed_4 rfl rfl rfl ?_
  refine xG_getq d_RQ_packed_5 xf_RQ_35 rfl s0_1 ?_
  refine xG_iload_n d_RQ_packed_8 rfl rfl ?_
  refine xG_iald d_RQ_packed_9 (lp_1_7 hL) s0_3 h.1 ?_
  have h := h.2
  refine xG_aload_n d_RQ_packed_10 rfl rfl rfl ?_
  refine xG_getq d_RQ_packed_11 xf_RQ_38 rfl s0_1 ?_
  refine xG_iload_n d_RQ_packed_14 rfl rfl ?_
  refine xG_iald d_RQ_packed_15 (lp_1_8 hL) s0_4 h.1 ?_
  have h := h.2
  obtain ⟨Q1, hM, h⟩ := h
  refine xG_calls (as := [xq (P 1 0), xi (I 3 v1.toNatClampNeg), xi (I 4 v1.toNatClampNeg)]) (rest := []) d_RQ_packed_16 ys_PK_of w2_202 rfl rfl hM ⟨by decide, by decide⟩ (Nat.le_of_ble_eq_true rfl) ⟨Nat.zero_le _, Nat.zero_le _⟩ (fun r S1 I1 J1 P1 hp => ?_)
  obtain ⟨rfl, hL1, z1, rfl, hq⟩ := hp
  have h := h z1 I1 J1 P1 hq
  exact xG_lreturn d_RQ_packed_19 rfl ⟨rfl, hL1, _, rfl, h⟩
theorem e_RQ_packed {l : Launch} {V : xV} {Q : Int64 → xIt → xJt → xPt → Prop} {I : xIt} {J : xJt} {P : xPt} {v1 : Int32} (h : G_RQ_packed l V Q 0 [(0, xq (some 1)), (1, xi v1)] [] I J P) : xMet l V y_RQ_packed 3 0 0 [xq (some 1), xi v1] xS0 I J P (xPl Q) := xMet_of (by decide) (Nat.le_of_ble_eq_true rfl) h

abbrev G_RQ_typeOf (l : Launch) (V : xV) (Q : Int32 → xIt → xJt → xPt → Prop) (pc : Nat) (lv : List (Nat × xX)) (st : List xX) (I : xIt) (J : xJt) (P : xPt) : Prop := xG l V y_RQ_typeOf (xR 3 0 0) (xFn V y_RQ_typeOf (xR 3 0 0) (xPi Q)) pc lv st xS0 I J P (0, 0)
set_option maxRecDepth 20000 in
theorem b_RQ_typeOf_0 {l : Launch} {V : xV} {Q : Int32 → xIt → xJt → xPt → Prop} {I : xIt} {J : xJt} {P : xPt} (hL : xL P) {v1 : Int32} (h : (vp_in v1 75 ∧ (vp_in v1 75 ∧ ((¬ ((I 4 v1.toNatClampNeg) - (I 3 v1.toNatClampNeg)) = 1 → Q (-1) I J P) ∧ (((I 4 v1.toNatClampNeg) - (I 3 v1.toNatClampNeg)) = 1 → (vp_in v1 75 ∧ (vp_in (I 3 v1.toNatClampNeg) 153 ∧ (∃ Q1 : Int32 → xIt → xJt → xPt → Prop, xMet l V y_SX_typeOf 2 0 0 [xi (I 2 ((I 3 v1.toNatClampNeg).toNatClampNeg))] xS0 I J P (xPi Q1) ∧ ∀ (z1 : Int32) (I1 : xIt) (J1 : xJt) (P1 : xPt), Q1 z1 I1 J1 P1 → Q z1 I1 J1 P1)))))))) : G_RQ_typeOf l V Q 0 [(0, xq (some 1)), (1, xi v1)] [] I J P := by
  refine xG_aload_n d_RQ_typeOf_0 rfl rfl rfl ?_
  refine xG_getq d_RQ_typeOf_1 xf_RQ_38 rfl s0_1 ?_
  refine xG_iload_n d_RQ_typeOf_4 rfl rfl ?_
  refine xG_iald d_RQ_typeOf_5 (lp_1_8 hL) s0_4 h.1 ?_
  have h := h.2
  refine xG_aload_n d_RQ_typeOf_6 rfl rfl rfl ?_
  refine xG_getq d_RQ_typeOf_7 xf_RQ_35 rfl s0_1 ?_
  refine xG_iload_n d_RQ_typeOf_10 rfl rfl ?_
  refine xG_iald d_RQ_typeOf_11 (lp_1_7 hL) s0_3 h.1 ?_
  have h := h.2
  refine xG_isub d_RQ_typeOf_12 ?_
  refine xG_iconst (v := 1) d_RQ_typeOf_13 rfl ?_
  refine xG_icmp_ne (tgt := 34) d_RQ_typeOf_14 (by decide) (fun c => ?_) (fun c => ?_)
  · have h := h.1 c
    refine xG_iconst (v := (-1)) d_RQ_typeOf_34 rfl ?_
    exact xG_ireturn d_RQ_typeOf_35 rfl rfl ⟨rfl, hL, _, rfl, h⟩
  · have h := h.2 c
    refine xG_aload_n d_RQ_typeOf_17 rfl rfl rfl ?_
    refine xG_getq d_RQ_typeOf_18 xf_RQ_9 rfl s0_1 ?_
    refine xG_aload_n d_RQ_typeOf_21 rfl rfl rfl ?_
    refine xG_getq d_RQ_typeOf_22 xf_RQ_35 rfl s0_1 ?_
    refine xG_iload_n d_RQ_typeOf_25 rfl rfl ?_
    refine xG_iald d_RQ_typeOf_26 (lp_1_7 hL) s0_3 h.1 ?_
    have h := h.2
    refine xG_iald d_RQ_typeOf_27 (lp_1_0 hL) s0_2 h.1 ?_
    have h := h.2
    refine xG_topi (x' := I 2 ((I 3 v1.toNatClampNeg).toNatClampNeg)) (by first | rfl | exact xu_at | simp [xu]) ?_
    obtain ⟨Q1, hM, h⟩ := h
    refine xG_calls (as := [xi (I 2 ((I 3 v1.toNatClampNeg).toNatClampNeg))]) (rest := []) d_RQ_typeOf_28 ys_SX_typeOf w2_227 rfl rfl hM ⟨by decide, by decide⟩ (Nat.le_of_ble_eq_true rfl) ⟨Nat.zero_le _, Nat.zero_le _⟩ (fun r S1 I1 J1 P1 hp => ?_)
    obtain ⟨rfl, hL1, z1, rfl, hq⟩ := hp
    have h := h z1 I1 J1 P1 hq
    refine xG_goto (tgt := 35) d_RQ_typeOf_31 (by decide) ?_
    exact xG_ireturn d_RQ_typeOf_35 rfl rfl ⟨rfl, hL1, _, rfl, h⟩
theorem e_RQ_typeOf {l : Launch} {V : xV} {Q : Int32 → xIt → xJt → xPt → Prop} {I : xIt} {J : xJt} {P : xPt} {v1 : Int32} (h : G_RQ_typeOf l V Q 0 [(0, xq (some 1)), (1, xi v1)] [] I J P) : xMet l V y_RQ_typeOf 3 0 0 [xq (some 1), xi v1] xS0 I J P (xPi Q) := xMet_of (by decide) (Nat.le_of_ble_eq_true rfl) h

abbrev G_RQ_decode (l : Launch) (V : xV) (Q : Int32 → xIt → xJt → xPt → Prop) (pc : Nat) (lv : List (Nat × xX)) (st : List xX) (I : xIt) (J : xJt) (P : xPt) : Prop := xG l V y_RQ_decode (xR 12 0 0) (xFn V y_RQ_decode (xR 12 0 0) (xPi Q)) pc lv st xS0 I J P (0, 0)
set_option maxRecDepth 20000 in
theorem b_RQ_decode_0 {l : Launch} {V : xV} {Q : Int32 → xIt → xJt → xPt → Prop} {I : xIt} {J : xJt} {P : xPt} (hL : xL P) {v1 : Int32} (h : (∃ Q1 : xIt → xJt → xPt → Prop, xMet l V y_FL_clear 1 0 0 [xq (some 6)] xS0 (xu (xu (xu I 1 1 0) 1 9 0) 1 11 0) J P (xPv Q1) ∧ ∀ (I1 : xIt) (J1 : xJt) (P1 : xPt), Q1 I1 J1 P1 → (∃ Q2 : Int32 → xIt → xJt → xPt → Prop, xMet l V y_RQ_enter 1 0 0 [xq (some 1), xi 48, xi v1] xS0 I1 J1 P1 (xPi Q2) ∧ ∀ (z2 : Int32) (I2 : xIt) (J2 : xJt) (P2 : xPt), Q2 z2 I2 J2 P2 → ((z2 = v1 → (∃ Q3 : Int32 → xIt → xJt → xPt → Prop, xMet l V y_RQ_readNumber 2 0 0 [xq (some 1), xi v1] xS0 I2 J2 P2 (xPi Q3) ∧ ∀ (z3 : Int32) (I3 : xIt) (J3 : xJt) (P3 : xPt), Q3 z3 I3 J3 P3 → ((z3 < 1 → Q 0 (xu I3 1 2 z3) J3 P3) ∧ (¬ z3 < 1 → (((I3 1 1) < v1 → (vp_in (I3 1 1) 153 ∧ (∃ Q4 : Int32 → xIt → xJt → xPt → Prop, xMet l V y_RQ_enter 1 0 0 [xq (some 1), xi (I3 2 ((I3 1 1).toNatClampNeg)), xi v1] xS0 (xu (xu I3 1 2 z3) 1 3 (I3 2 ((I3 1 1).toNatClampNeg))) J3 P3 (xPi Q4) ∧ ∀ (z4 : Int32) (I4 : xIt) (J4 : xJt) (P4 : xPt), Q4 z4 I4 J4 P4 → ((¬ z4 = v1 → Q 0 I4 J4 P4) ∧ (z4 = v1 → (∃ Q5 : Int32 → xIt → xJt → xPt → Prop, xMet l V y_RQ_readContent 11 0 0 [xq (some 1), xi v1] xS0 I4 J4 P4 (xPi Q5) ∧ ∀ (z5 : Int32) (I5 : xIt) (J5 : xJt) (P5 : xPt), Q5 z5 I5 J5 P5 → ((z5 = 0 → Q 0 I5 J5 P5) ∧ (¬ z5 = 0 → ((¬ (I5 1 1) = v1 → Q 0 I5 J5 P5) ∧ ((I5 1 1) = v1 → Q 1 I5 J5 P5)))))))))) ∧ (¬ (I3 1 1) < v1 → Q 0 (xu I3 1 2 z3) J3 P3)))))) ∧ (¬ z2 = v1 → Q 0 I2 J2 P2))))) : G_RQ_decode l V Q 0 [(0, xq (some 1)), (1, xi v1)] [] I J P := by
  refine xG_aload_n d_RQ_decode_0 rfl rfl rfl ?_
  refine xG_iconst (v := 0) d_RQ_decode_1 rfl ?_
  refine xG_puti d_RQ_decode_2 xf_RQ_15 (Or.inl rfl) rfl s0_1 rfl rfl ?_
  refine xG_aload_n d_RQ_decode_5 rfl rfl rfl ?_
  refine xG_iconst (v := 0) d_RQ_decode_6 rfl ?_
  refine xG_puti d_RQ_decode_7 xf_RQ_41 (Or.inl rfl) rfl s0_1 rfl rfl ?_
  refine xG_aload_n d_RQ_decode_10 rfl rfl rfl ?_
  refine xG_iconst (v := 0) d_RQ_decode_11 rfl ?_
  refine xG_puti d_RQ_decode_12 xf_RQ_47 (Or.inl rfl) rfl s0_1 rfl rfl ?_
  refine xG_aload_n d_RQ_decode_15 rfl rfl rfl ?_
  refine xG_getq d_RQ_decode_16 xf_RQ_53 rfl s0_1 ?_
  obtain ⟨Q1, hM, h⟩ := h
  refine xG_callv (as := []) (rest := []) d_RQ_decode_19 yv_FL_clear w2_50 rfl (lp_1_12 hL) rfl s0_6 (by decide) rfl hM ⟨by decide, by decide⟩ (Nat.le_of_ble_eq_true rfl) ⟨Nat.zero_le _, Nat.zero_le _⟩ (fun r S1 I1 J1 P1 hp => ?_)
  obtain ⟨rfl, hL1, rfl, hq⟩ := hp
  have h := h I1 J1 P1 hq
  refine xG_aload_n d_RQ_decode_22 rfl rfl rfl ?_
  refine xG_bipush (v := 48) d_RQ_decode_23 rfl ?_
  refine xG_iload_n d_RQ_decode_25 rfl rfl ?_
  obtain ⟨Q2, hM, h⟩ := h
  refine xG_callv (as := [xi 48, xi v1]) (rest := []) d_RQ_decode_26 yv_RQ_enter w2_54 rfl rfl rfl s0_1 (by decide) rfl hM ⟨by decide, by decide⟩ (Nat.le_of_ble_eq_true rfl) ⟨Nat.zero_le _, Nat.zero_le _⟩ (fun r S2 I2 J2 P2 hp => ?_)
  obtain ⟨rfl, hL2, z2, rfl, hq⟩ := hp
  have h := h z2 I2 J2 P2 hq
  refine xG_iload_n d_RQ_decode_29 rfl rfl ?_
  refine xG_icmp_eq (tgt := 35) d_RQ_decode_30 (by decide) (fun c => ?_) (fun c => ?_)
  · have h := h.1 c
    refine xG_aload_n d_RQ_decode_35 rfl rfl rfl ?_
    refine xG_aload_n d_RQ_decode_36 rfl rfl rfl ?_
    refine xG_iload_n d_RQ_decode_37 rfl rfl ?_
    obtain ⟨Q3, hM, h⟩ := h
    refine xG_callv (as := [xi v1]) (rest := [xq (some 1)]) d_RQ_decode_38 yv_RQ_readNumber w2_58 rfl rfl rfl s0_1 (by decide) rfl hM ⟨by decide, by decide⟩ (Nat.le_of_ble_eq_true rfl) ⟨Nat.zero_le _, Nat.zero_le _⟩ (fun r S3 I3 J3 P3 hp => ?_)
    obtain ⟨rfl, hL3, z3, rfl, hq⟩ := hp
    have h := h z3 I3 J3 P3 hq
    refine xG_puti d_RQ_decode_41 xf_RQ_19 (Or.inl rfl) rfl s0_1 rfl rfl ?_
    refine xG_aload_n d_RQ_decode_44 rfl rfl rfl ?_
    refine xG_geti d_RQ_decode_45 xf_RQ_19 rfl s0_1 ?_
    refine xG_topi (x' := z3) (by first | rfl | exact xu_at | simp [xu]) ?_
    refine xG_iconst (v := 1) d_RQ_decode_48 rfl ?_
    refine xG_icmp_lt (tgt := 60) d_RQ_decode_49 (by decide) (fun c => ?_) (fun c => ?_)
    · have h := h.1 c
      refine xG_iconst (v := 0) d_RQ_decode_60 rfl ?_
      exact xG_ireturn d_RQ_decode_61 rfl rfl ⟨rfl, hL3, _, rfl, h⟩
    · have h := h.2 c
      refine xG_aload_n d_RQ_decode_52 rfl rfl rfl ?_
      refine xG_geti d_RQ_decode_53 xf_RQ_15 rfl s0_1 ?_
      refine xG_topi (x' := I3 1 1) (by first | rfl | exact xu_at | simp [xu]) ?_
      refine xG_iload_n d_RQ_decode_56 rfl rfl ?_
      refine xG_icmp_lt (tgt := 62) d_RQ_decode_57 (by decide) (fun c => ?_) (fun c => ?_)
      · have h := h.1 c
        refine xG_aload_n d_RQ_decode_62 rfl rfl rfl ?_
        refine xG_aload_n d_RQ_decode_63 rfl rfl rfl ?_
        refine xG_getq d_RQ_decode_64 xf_RQ_9 rfl s0_1 ?_
        refine xG_aload_n d_RQ_decode_67 rfl rfl rfl ?_
        refine xG_geti d_RQ_decode_68 xf_RQ_15 rfl s0_1 ?_
        refine xG_topi (x' := I3 1 1) (by first | rfl | exact xu_at | simp [xu]) ?_
        refine xG_iald d_RQ_decode_71 (lp_1_0 hL3) s0_2 h.1 ?_
        have h := h.2
        refine xG_topi (x' := I3 2 ((I3 1 1).toNatClampNeg)) (by first | rfl | exact xu_at | simp [xu]) ?_
        refine xG_puti d_RQ_decode_72 xf_RQ_22 (Or.inl rfl) rfl s0_1 rfl rfl ?_
        refine xG_aload_n d_RQ_decode_75 rfl rfl rfl ?_
        refine xG_aload_n d_RQ_decode_76 rfl rfl rfl ?_
        refine xG_geti d_RQ_decode_77 xf_RQ_22 rfl s0_1 ?_
        refine xG_topi (x' := I3 2 ((I3 1 1).toNatClampNeg)) (by first | rfl | exact xu_at | simp [xu]) ?_
        refine xG_iload_n d_RQ_decode_80 rfl rfl ?_
        obtain ⟨Q4, hM, h⟩ := h
        refine xG_callv (as := [xi (I3 2 ((I3 1 1).toNatClampNeg)), xi v1]) (rest := []) d_RQ_decode_81 yv_RQ_enter w2_54 rfl rfl rfl s0_1 (by decide) rfl hM ⟨by decide, by decide⟩ (Nat.le_of_ble_eq_true rfl) ⟨Nat.zero_le _, Nat.zero_le _⟩ (fun r S4 I4 J4 P4 hp => ?_)
        obtain ⟨rfl, hL4, z4, rfl, hq⟩ := hp
        have h := h z4 I4 J4 P4 hq
        refine xG_iload_n d_RQ_decode_84 rfl rfl ?_
        refine xG_icmp_ne (tgt := 108) d_RQ_decode_85 (by decide) (fun c => ?_) (fun c => ?_)
        · have h := h.1 c
          refine xG_iconst (v := 0) d_RQ_decode_108 rfl ?_
          exact xG_ireturn d_RQ_decode_109 rfl rfl ⟨rfl, hL4, _, rfl, h⟩
        · have h := h.2 c
          refine xG_aload_n d_RQ_decode_88 rfl rfl rfl ?_
          refine xG_iload_n d_RQ_decode_89 rfl rfl ?_
          obtain ⟨Q5, hM, h⟩ := h
          refine xG_callv (as := [xi v1]) (rest := []) d_RQ_decode_90 yv_RQ_readContent w2_63 rfl rfl rfl s0_1 (by decide) rfl hM ⟨by decide, by decide⟩ (Nat.le_of_ble_eq_true rfl) ⟨Nat.zero_le _, Nat.zero_le _⟩ (fun r S5 I5 J5 P5 hp => ?_)
          obtain ⟨rfl, hL5, z5, rfl, hq⟩ := hp
          have h := h z5 I5 J5 P5 hq
          refine xG_if_eq (tgt := 108) d_RQ_decode_93 (by decide) (fun c => ?_) (fun c => ?_)
          · have h := h.1 c
            refine xG_iconst (v := 0) d_RQ_decode_108 rfl ?_
            exact xG_ireturn d_RQ_decode_109 rfl rfl ⟨rfl, hL5, _, rfl, h⟩
          · have h := h.2 c
            refine xG_aload_n d_RQ_decode_96 rfl rfl rfl ?_
            refine xG_geti d_RQ_decode_97 xf_RQ_15 rfl s0_1 ?_
            refine xG_iload_n d_RQ_decode_100 rfl rfl ?_
            refine xG_icmp_ne (tgt := 108) d_RQ_decode_101 (by decide) (fun c => ?_) (fun c => ?_)
            · have h := h.1 c
              refine xG_iconst (v := 0) d_RQ_decode_108 rfl ?_
              exact xG_ireturn d_RQ_decode_109 rfl rfl ⟨rfl, hL5, _, rfl, h⟩
            · have h := h.2 c
              refine xG_iconst (v := 1) d_RQ_decode_104 rfl ?_
              refine xG_goto (tgt := 109) d_RQ_decode_105 (by decide) ?_
              exact xG_ireturn d_RQ_decode_109 rfl rfl ⟨rfl, hL5, _, rfl, h⟩
      · have h := h.2 c
        refine xG_iconst (v := 0) d_RQ_decode_60 rfl ?_
        exact xG_ireturn d_RQ_decode_61 rfl rfl ⟨rfl, hL3, _, rfl, h⟩
  · have h := h.2 c
    refine xG_iconst (v := 0) d_RQ_decode_33 rfl ?_
    exact xG_ireturn d_RQ_decode_34 rfl rfl ⟨rfl, hL2, _, rfl, h⟩
theorem e_RQ_decode {l : Launch} {V : xV} {Q : Int32 → xIt → xJt → xPt → Prop} {I : xIt} {J : xJt} {P : xPt} {v1 : Int32} (h : G_RQ_decode l V Q 0 [(0, xq (some 1)), (1, xi v1)] [] I J P) : xMet l V y_RQ_decode 12 0 0 [xq (some 1), xi v1] xS0 I J P (xPi Q) := xMet_of (by decide) (Nat.le_of_ble_eq_true rfl) h

abbrev G_RQ_readContent (l : Launch) (V : xV) (Q : Int32 → xIt → xJt → xPt → Prop) (pc : Nat) (lv : List (Nat × xX)) (st : List xX) (I : xIt) (J : xJt) (P : xPt) : Prop := xG l V y_RQ_readContent (xR 11 0 0) (xFn V y_RQ_readContent (xR 11 0 0) (xPi Q)) pc lv st xS0 I J P (0, 0)
set_option maxRecDepth 20000 in
theorem b_RQ_readContent_0 {l : Launch} {V : xV} {Q : Int32 → xIt → xJt → xPt → Prop} {I : xIt} {J : xJt} {P : xPt} (hL : xL P) {v1 : Int32} (h : ((I 1 3 = 66 → ((¬ (I 1 1) = v1 → Q 0 I J P) ∧ ((I 1 1) = v1 → Q 1 I J P))) ∧ (I 1 3 = 74 → (∃ Q1 : Int32 → xIt → xJt → xPt → Prop, xMet l V y_RQ_takeText 1 0 0 [xq (some 1), xi v1] xS0 I J P (xPi Q1) ∧ ∀ (z1 : Int32) (I1 : xIt) (J1 : xJt) (P1 : xPt), Q1 z1 I1 J1 P1 → ((z1 = 0 ∨ z1 = 1) ∧ Q z1 I1 J1 P1))) ∧ (I 1 3 = 96 → (∃ Q2 : Int32 → xIt → xJt → xPt → Prop, xMet l V y_RQ_readVersion 3 0 0 [xq (some 1), xi v1] xS0 I J P (xPi Q2) ∧ ∀ (z2 : Int32) (I2 : xIt) (J2 : xJt) (P2 : xPt), Q2 z2 I2 J2 P2 → ((z2 = 0 → Q 0 I2 J2 P2) ∧ (¬ z2 = 0 → (∃ Q3 : Int32 → xIt → xJt → xPt → Prop, xMet l V y_RQ_readText 2 0 0 [xq (some 1), xi 4, xi v1] xS0 I2 J2 P2 (xPi Q3) ∧ ∀ (z3 : Int32) (I3 : xIt) (J3 : xJt) (P3 : xPt), Q3 z3 I3 J3 P3 → ((z3 = 0 → Q 0 I3 J3 P3) ∧ (¬ z3 = 0 → (∃ Q4 : Int32 → xIt → xJt → xPt → Prop, xMet l V y_RQ_readText 2 0 0 [xq (some 1), xi 128, xi v1] xS0 I3 J3 P3 (xPi Q4) ∧ ∀ (z4 : Int32) (I4 : xIt) (J4 : xJt) (P4 : xPt), Q4 z4 I4 J4 P4 → ((z4 = 0 → Q 0 I4 J4 P4) ∧ (¬ z4 = 0 → Q 1 I4 J4 P4)))))))))) ∧ (I 1 3 = 99 → (∃ Q5 : Int32 → xIt → xJt → xPt → Prop, xMet l V y_RQ_readText 2 0 0 [xq (some 1), xi 4, xi v1] xS0 I J P (xPi Q5) ∧ ∀ (z5 : Int32) (I5 : xIt) (J5 : xJt) (P5 : xPt), Q5 z5 I5 J5 P5 → ((z5 = 0 → Q 0 I5 J5 P5) ∧ (¬ z5 = 0 → (∃ Q6 : Int32 → xIt → xJt → xPt → Prop, xMet l V y_RQ_readChoice 3 0 0 [xq (some 1), xi v1] xS0 I5 J5 P5 (xPi Q6) ∧ ∀ (z6 : Int32) (I6 : xIt) (J6 : xJt) (P6 : xPt), Q6 z6 I6 J6 P6 → ((z6 = 0 → Q 0 I6 J6 P6) ∧ (¬ z6 = 0 → (∃ Q7 : Int32 → xIt → xJt → xPt → Prop, xMet l V y_RQ_readLimit 3 0 0 [xq (some 1), xi v1] xS0 I6 J6 P6 (xPi Q7) ∧ ∀ (z7 : Int32) (I7 : xIt) (J7 : xJt) (P7 : xPt), Q7 z7 I7 J7 P7 → ((z7 = 0 → Q 0 I7 J7 P7) ∧ (¬ z7 = 0 → (∃ Q8 : Int32 → xIt → xJt → xPt → Prop, xMet l V y_RQ_readFilter 10 0 0 [xq (some 1), xi v1, xi (-1), xi 1] xS0 I7 J7 P7 (xPi Q8) ∧ ∀ (z8 : Int32) (I8 : xIt) (J8 : xJt) (P8 : xPt), Q8 z8 I8 J8 P8 → ((z8 = 0 → Q 0 I8 J8 P8) ∧ (¬ z8 = 0 → Q 1 I8 J8 P8))))))))))))) ∧ (I 1 3 = 102 → (∃ Q9 : Int32 → xIt → xJt → xPt → Prop, xMet l V y_RQ_readText 2 0 0 [xq (some 1), xi 4, xi v1] xS0 I J P (xPi Q9) ∧ ∀ (z9 : Int32) (I9 : xIt) (J9 : xJt) (P9 : xPt), Q9 z9 I9 J9 P9 → ((z9 = 0 → Q 0 I9 J9 P9) ∧ (¬ z9 = 0 → (∃ Q10 : Int32 → xIt → xJt → xPt → Prop, xMet l V y_RQ_readChoice 3 0 0 [xq (some 1), xi v1] xS0 I9 J9 P9 (xPi Q10) ∧ ∀ (z10 : Int32) (I10 : xIt) (J10 : xJt) (P10 : xPt), Q10 z10 I10 J10 P10 → ((z10 = 0 → Q 0 I10 J10 P10) ∧ (¬ z10 = 0 → (∃ Q11 : Int32 → xIt → xJt → xPt → Prop, xMet l V y_RQ_readText 2 0 0 [xq (some 1), xi 4, xi v1] xS0 I10 J10 P10 (xPi Q11) ∧ ∀ (z11 : Int32) (I11 : xIt) (J11 : xJt) (P11 : xPt), Q11 z11 I11 J11 P11 → ((z11 = 0 → Q 0 I11 J11 P11) ∧ (¬ z11 = 0 → (∃ Q12 : Int32 → xIt → xJt → xPt → Prop, xMet l V y_RQ_readValues 3 0 0 [xq (some 1), xi v1] xS0 I11 J11 P11 (xPi Q12) ∧ ∀ (z12 : Int32) (I12 : xIt) (J12 : xJt) (P12 : xPt), Q12 z12 I12 J12 P12 → ((z12 = 0 → Q 0 I12 J12 P12) ∧ (¬ z12 = 0 → Q 1 I12 J12 P12))))))))))))) ∧ (I 1 3 = 104 → (∃ Q13 : Int32 → xIt → xJt → xPt → Prop, xMet l V y_RQ_readText 2 0 0 [xq (some 1), xi 4, xi v1] xS0 I J P (xPi Q13) ∧ ∀ (z13 : Int32) (I13 : xIt) (J13 : xJt) (P13 : xPt), Q13 z13 I13 J13 P13 → ((z13 = 0 → Q 0 I13 J13 P13) ∧ (¬ z13 = 0 → (∃ Q14 : Int32 → xIt → xJt → xPt → Prop, xMet l V y_RQ_enter 1 0 0 [xq (some 1), xi 48, xi v1] xS0 I13 J13 P13 (xPi Q14) ∧ ∀ (z14 : Int32) (I14 : xIt) (J14 : xJt) (P14 : xPt), Q14 z14 I14 J14 P14 → ((¬ z14 = v1 → Q 0 I14 J14 P14) ∧ (z14 = v1 → (∃ Q15 : Int32 → xIt → xJt → xPt → Prop, xMet l V y_RQ_readAttributes 4 0 0 [xq (some 1), xi v1] xS0 I14 J14 P14 (xPi Q15) ∧ ∀ (z15 : Int32) (I15 : xIt) (J15 : xJt) (P15 : xPt), Q15 z15 I15 J15 P15 → ((z15 = 0 → Q 0 I15 J15 P15) ∧ (¬ z15 = 0 → Q 1 I15 J15 P15)))))))))) ∧ (I 1 3 = 108 → (∃ Q16 : Int32 → xIt → xJt → xPt → Prop, xMet l V y_RQ_readText 2 0 0 [xq (some 1), xi 4, xi v1] xS0 I J P (xPi Q16) ∧ ∀ (z16 : Int32) (I16 : xIt) (J16 : xJt) (P16 : xPt), Q16 z16 I16 J16 P16 → ((z16 = 0 → Q 0 I16 J16 P16) ∧ (¬ z16 = 0 → (∃ Q17 : Int32 → xIt → xJt → xPt → Prop, xMet l V y_RQ_readText 2 0 0 [xq (some 1), xi 4, xi v1] xS0 I16 J16 P16 (xPi Q17) ∧ ∀ (z17 : Int32) (I17 : xIt) (J17 : xJt) (P17 : xPt), Q17 z17 I17 J17 P17 → ((z17 = 0 → Q 0 I17 J17 P17) ∧ (¬ z17 = 0 → (∃ Q18 : Int32 → xIt → xJt → xPt → Prop, xMet l V y_RQ_readFlag 3 0 0 [xq (some 1), xi v1] xS0 I17 J17 P17 (xPi Q18) ∧ ∀ (z18 : Int32) (I18 : xIt) (J18 : xJt) (P18 : xPt), Q18 z18 I18 J18 P18 → ((z18 = 0 → Q 0 I18 J18 P18) ∧ (¬ z18 = 0 → Q 1 I18 J18 P18)))))))))) ∧ (I 1 3 = 110 → (∃ Q19 : Int32 → xIt → xJt → xPt → Prop, xMet l V y_RQ_readText 2 0 0 [xq (some 1), xi 4, xi v1] xS0 I J P (xPi Q19) ∧ ∀ (z19 : Int32) (I19 : xIt) (J19 : xJt) (P19 : xPt), Q19 z19 I19 J19 P19 → ((z19 = 0 → Q 0 I19 J19 P19) ∧ (¬ z19 = 0 → (∃ Q20 : Int32 → xIt → xJt → xPt → Prop, xMet l V y_RQ_enter 1 0 0 [xq (some 1), xi 48, xi v1] xS0 I19 J19 P19 (xPi Q20) ∧ ∀ (z20 : Int32) (I20 : xIt) (J20 : xJt) (P20 : xPt), Q20 z20 I20 J20 P20 → ((¬ z20 = v1 → Q 0 I20 J20 P20) ∧ (z20 = v1 → (∃ Q21 : Int32 → xIt → xJt → xPt → Prop, xMet l V y_RQ_readText 2 0 0 [xq (some 1), xi 4, xi v1] xS0 I20 J20 P20 (xPi Q21) ∧ ∀ (z21 : Int32) (I21 : xIt) (J21 : xJt) (P21 : xPt), Q21 z21 I21 J21 P21 → ((z21 = 0 → Q 0 I21 J21 P21) ∧ (¬ z21 = 0 → (∃ Q22 : Int32 → xIt → xJt → xPt → Prop, xMet l V y_RQ_readText 2 0 0 [xq (some 1), xi 4, xi v1] xS0 I21 J21 P21 (xPi Q22) ∧ ∀ (z22 : Int32) (I22 : xIt) (J22 : xJt) (P22 : xPt), Q22 z22 I22 J22 P22 → ((z22 = 0 → Q 0 I22 J22 P22) ∧ (¬ z22 = 0 → Q 1 I22 J22 P22))))))))))))) ∧ (¬ I 1 3 = 66 → ¬ I 1 3 = 74 → ¬ I 1 3 = 96 → ¬ I 1 3 = 99 → ¬ I 1 3 = 102 → ¬ I 1 3 = 104 → ¬ I 1 3 = 108 → ¬ I 1 3 = 110 → Q 0 I J P))) : G_RQ_readContent l V Q 0 [(0, xq (some 1)), (1, xi v1)] [] I J P := by
  refine xG_aload_n d_RQ_readContent_0 rfl rfl rfl ?_
  refine xG_geti d_RQ_readContent_1 xf_RQ_22 rfl s0_1 ?_
  by_cases c0 : I 1 3 = 66
  · have h := h.1 c0
    refine xG_topi (x' := 66) c0 ?_
    refine xG_lookup (off := 110) (tgt := 114) d_RQ_readContent_4 (by decide) rfl (by decide) ?_
    refine xG_aload_n d_RQ_readContent_114 rfl rfl rfl ?_
    refine xG_geti d_RQ_readContent_115 xf_RQ_15 rfl s0_1 ?_
    refine xG_iload_n d_RQ_readContent_118 rfl rfl ?_
    refine xG_icmp_ne (tgt := 126) d_RQ_readContent_119 (by decide) (fun c => ?_) (fun c => ?_)
    · have h := h.1 c
      refine xG_iconst (v := 0) d_RQ_readContent_126 rfl ?_
      exact xG_ireturn d_RQ_readContent_127 rfl rfl ⟨rfl, hL, _, rfl, h⟩
    · have h := h.2 c
      refine xG_iconst (v := 1) d_RQ_readContent_122 rfl ?_
      refine xG_goto (tgt := 127) d_RQ_readContent_123 (by decide) ?_
      exact xG_ireturn d_RQ_readContent_127 rfl rfl ⟨rfl, hL, _, rfl, h⟩
  by_cases c1 : I 1 3 = 74
  · have h := h.2.1 c1
    refine xG_topi (x' := 74) c1 ?_
    refine xG_lookup (off := 124) (tgt := 128) d_RQ_readContent_4 (by decide) rfl (by decide) ?_
    refine xG_aload_n d_RQ_readContent_128 rfl rfl rfl ?_
    refine xG_iload_n d_RQ_readContent_129 rfl rfl ?_
    obtain ⟨Q1, hM, h⟩ := h
    refine xG_callv (as := [xi v1]) (rest := []) d_RQ_readContent_130 yv_RQ_takeText w2_75 rfl rfl rfl s0_1 (by decide) rfl hM ⟨by decide, by decide⟩ (Nat.le_of_ble_eq_true rfl) ⟨Nat.zero_le _, Nat.zero_le _⟩ (fun r S1 I1 J1 P1 hp => ?_)
    obtain ⟨rfl, hL1, z1, rfl, hq⟩ := hp
    have h := h z1 I1 J1 P1 hq
    exact xG_ireturn d_RQ_readContent_133 rfl (x_nb h.1) ⟨rfl, hL1, _, rfl, h.2⟩
  by_cases c2 : I 1 3 = 96
  · have h := h.2.2.1 c2
    refine xG_topi (x' := 96) c2 ?_
    refine xG_lookup (off := 76) (tgt := 80) d_RQ_readContent_4 (by decide) rfl (by decide) ?_
    refine xG_aload_n d_RQ_readContent_80 rfl rfl rfl ?_
    refine xG_iload_n d_RQ_readContent_81 rfl rfl ?_
    obtain ⟨Q2, hM, h⟩ := h
    refine xG_callv (as := [xi v1]) (rest := []) d_RQ_readContent_82 yv_RQ_readVersion w2_67 rfl rfl rfl s0_1 (by decide) rfl hM ⟨by decide, by decide⟩ (Nat.le_of_ble_eq_true rfl) ⟨Nat.zero_le _, Nat.zero_le _⟩ (fun r S2 I2 J2 P2 hp => ?_)
    obtain ⟨rfl, hL2, z2, rfl, hq⟩ := hp
    have h := h z2 I2 J2 P2 hq
    refine xG_if_eq (tgt := 112) d_RQ_readContent_85 (by decide) (fun c => ?_) (fun c => ?_)
    · have h := h.1 c
      refine xG_iconst (v := 0) d_RQ_readContent_112 rfl ?_
      exact xG_ireturn d_RQ_readContent_113 rfl rfl ⟨rfl, hL2, _, rfl, h⟩
    · have h := h.2 c
      refine xG_aload_n d_RQ_readContent_88 rfl rfl rfl ?_
      refine xG_iconst (v := 4) d_RQ_readContent_89 rfl ?_
      refine xG_iload_n d_RQ_readContent_90 rfl rfl ?_
      obtain ⟨Q3, hM, h⟩ := h
      refine xG_callv (as := [xi 4, xi v1]) (rest := []) d_RQ_readContent_91 yv_RQ_readText w2_71 rfl rfl rfl s0_1 (by decide) rfl hM ⟨by decide, by decide⟩ (Nat.le_of_ble_eq_true rfl) ⟨Nat.zero_le _, Nat.zero_le _⟩ (fun r S3 I3 J3 P3 hp => ?_)
      obtain ⟨rfl, hL3, z3, rfl, hq⟩ := hp
      have h := h z3 I3 J3 P3 hq
      refine xG_if_eq (tgt := 112) d_RQ_readContent_94 (by decide) (fun c => ?_) (fun c => ?_)
      · have h := h.1 c
        refine xG_iconst (v := 0) d_RQ_readContent_112 rfl ?_
        exact xG_ireturn d_RQ_readContent_113 rfl rfl ⟨rfl, hL3, _, rfl, h⟩
      · have h := h.2 c
        refine xG_aload_n d_RQ_readContent_97 rfl rfl rfl ?_
        refine xG_sipush (v := 128) d_RQ_readContent_98 rfl ?_
        refine xG_iload_n d_RQ_readContent_101 rfl rfl ?_
        obtain ⟨Q4, hM, h⟩ := h
        refine xG_callv (as := [xi 128, xi v1]) (rest := []) d_RQ_readContent_102 yv_RQ_readText w2_71 rfl rfl rfl s0_1 (by decide) rfl hM ⟨by decide, by decide⟩ (Nat.le_of_ble_eq_true rfl) ⟨Nat.zero_le _, Nat.zero_le _⟩ (fun r S4 I4 J4 P4 hp => ?_)
        obtain ⟨rfl, hL4, z4, rfl, hq⟩ := hp
        have h := h z4 I4 J4 P4 hq
        refine xG_if_eq (tgt := 112) d_RQ_readContent_105 (by decide) (fun c => ?_) (fun c => ?_)
        · have h := h.1 c
          refine xG_iconst (v := 0) d_RQ_readContent_112 rfl ?_
          exact xG_ireturn d_RQ_readContent_113 rfl rfl ⟨rfl, hL4, _, rfl, h⟩
        · have h := h.2 c
          refine xG_iconst (v := 1) d_RQ_readContent_108 rfl ?_
          refine xG_goto (tgt := 113) d_RQ_readContent_109 (by decide) ?_
          exact xG_ireturn d_RQ_readContent_113 rfl rfl ⟨rfl, hL4, _, rfl, h⟩
  by_cases c3 : I 1 3 = 99
  · have h := h.2.2.2.1 c3
    refine xG_topi (x' := 99) c3 ?_
    refine xG_lookup (off := 280) (tgt := 284) d_RQ_readContent_4 (by decide) rfl (by decide) ?_
    refine xG_aload_n d_RQ_readContent_284 rfl rfl rfl ?_
    refine xG_iconst (v := 4) d_RQ_readContent_285 rfl ?_
    refine xG_iload_n d_RQ_readContent_286 rfl rfl ?_
    obtain ⟨Q5, hM, h⟩ := h
    refine xG_callv (as := [xi 4, xi v1]) (rest := []) d_RQ_readContent_287 yv_RQ_readText w2_71 rfl rfl rfl s0_1 (by decide) rfl hM ⟨by decide, by decide⟩ (Nat.le_of_ble_eq_true rfl) ⟨Nat.zero_le _, Nat.zero_le _⟩ (fun r S5 I5 J5 P5 hp => ?_)
    obtain ⟨rfl, hL5, z5, rfl, hq⟩ := hp
    have h := h z5 I5 J5 P5 hq
    refine xG_if_eq (tgt := 323) d_RQ_readContent_290 (by decide) (fun c => ?_) (fun c => ?_)
    · have h := h.1 c
      refine xG_iconst (v := 0) d_RQ_readContent_323 rfl ?_
      exact xG_ireturn d_RQ_readContent_324 rfl rfl ⟨rfl, hL5, _, rfl, h⟩
    · have h := h.2 c
      refine xG_aload_n d_RQ_readContent_293 rfl rfl rfl ?_
      refine xG_iload_n d_RQ_readContent_294 rfl rfl ?_
      obtain ⟨Q6, hM, h⟩ := h
      refine xG_callv (as := [xi v1]) (rest := []) d_RQ_readContent_295 yv_RQ_readChoice w2_87 rfl rfl rfl s0_1 (by decide) rfl hM ⟨by decide, by decide⟩ (Nat.le_of_ble_eq_true rfl) ⟨Nat.zero_le _, Nat.zero_le _⟩ (fun r S6 I6 J6 P6 hp => ?_)
      obtain ⟨rfl, hL6, z6, rfl, hq⟩ := hp
      have h := h z6 I6 J6 P6 hq
      refine xG_if_eq (tgt := 323) d_RQ_readContent_298 (by decide) (fun c => ?_) (fun c => ?_)
      · have h := h.1 c
        refine xG_iconst (v := 0) d_RQ_readContent_323 rfl ?_
        exact xG_ireturn d_RQ_readContent_324 rfl rfl ⟨rfl, hL6, _, rfl, h⟩
      · have h := h.2 c
        refine xG_aload_n d_RQ_readContent_301 rfl rfl rfl ?_
        refine xG_iload_n d_RQ_readContent_302 rfl rfl ?_
        obtain ⟨Q7, hM, h⟩ := h
        refine xG_callv (as := [xi v1]) (rest := []) d_RQ_readContent_303 yv_RQ_readLimit w2_99 rfl rfl rfl s0_1 (by decide) rfl hM ⟨by decide, by decide⟩ (Nat.le_of_ble_eq_true rfl) ⟨Nat.zero_le _, Nat.zero_le _⟩ (fun r S7 I7 J7 P7 hp => ?_)
        obtain ⟨rfl, hL7, z7, rfl, hq⟩ := hp
        have h := h z7 I7 J7 P7 hq
        refine xG_if_eq (tgt := 323) d_RQ_readContent_306 (by decide) (fun c => ?_) (fun c => ?_)
        · have h := h.1 c
          refine xG_iconst (v := 0) d_RQ_readContent_323 rfl ?_
          exact xG_ireturn d_RQ_readContent_324 rfl rfl ⟨rfl, hL7, _, rfl, h⟩
        · have h := h.2 c
          refine xG_aload_n d_RQ_readContent_309 rfl rfl rfl ?_
          refine xG_iload_n d_RQ_readContent_310 rfl rfl ?_
          refine xG_iconst (v := (-1)) d_RQ_readContent_311 rfl ?_
          refine xG_iconst (v := 1) d_RQ_readContent_312 rfl ?_
          obtain ⟨Q8, hM, h⟩ := h
          refine xG_callv (as := [xi v1, xi (-1), xi 1]) (rest := []) d_RQ_readContent_313 yv_RQ_readFilter w2_103 rfl rfl rfl s0_1 (by decide) rfl hM ⟨by decide, by decide⟩ (Nat.le_of_ble_eq_true rfl) ⟨Nat.zero_le _, Nat.zero_le _⟩ (fun r S8 I8 J8 P8 hp => ?_)
          obtain ⟨rfl, hL8, z8, rfl, hq⟩ := hp
          have h := h z8 I8 J8 P8 hq
          refine xG_if_eq (tgt := 323) d_RQ_readContent_316 (by decide) (fun c => ?_) (fun c => ?_)
          · have h := h.1 c
            refine xG_iconst (v := 0) d_RQ_readContent_323 rfl ?_
            exact xG_ireturn d_RQ_readContent_324 rfl rfl ⟨rfl, hL8, _, rfl, h⟩
          · have h := h.2 c
            refine xG_iconst (v := 1) d_RQ_readContent_319 rfl ?_
            refine xG_goto (tgt := 324) d_RQ_readContent_320 (by decide) ?_
            exact xG_ireturn d_RQ_readContent_324 rfl rfl ⟨rfl, hL8, _, rfl, h⟩
  by_cases c4 : I 1 3 = 102
  · have h := h.2.2.2.2.1 c4
    refine xG_topi (x' := 102) c4 ?_
    refine xG_lookup (off := 208) (tgt := 212) d_RQ_readContent_4 (by decide) rfl (by decide) ?_
    refine xG_aload_n d_RQ_readContent_212 rfl rfl rfl ?_
    refine xG_iconst (v := 4) d_RQ_readContent_213 rfl ?_
    refine xG_iload_n d_RQ_readContent_214 rfl rfl ?_
    obtain ⟨Q9, hM, h⟩ := h
    refine xG_callv (as := [xi 4, xi v1]) (rest := []) d_RQ_readContent_215 yv_RQ_readText w2_71 rfl rfl rfl s0_1 (by decide) rfl hM ⟨by decide, by decide⟩ (Nat.le_of_ble_eq_true rfl) ⟨Nat.zero_le _, Nat.zero_le _⟩ (fun r S9 I9 J9 P9 hp => ?_)
    obtain ⟨rfl, hL9, z9, rfl, hq⟩ := hp
    have h := h z9 I9 J9 P9 hq
    refine xG_if_eq (tgt := 250) d_RQ_readContent_218 (by decide) (fun c => ?_) (fun c => ?_)
    · have h := h.1 c
      refine xG_iconst (v := 0) d_RQ_readContent_250 rfl ?_
      exact xG_ireturn d_RQ_readContent_251 rfl rfl ⟨rfl, hL9, _, rfl, h⟩
    · have h := h.2 c
      refine xG_aload_n d_RQ_readContent_221 rfl rfl rfl ?_
      refine xG_iload_n d_RQ_readContent_222 rfl rfl ?_
      obtain ⟨Q10, hM, h⟩ := h
      refine xG_callv (as := [xi v1]) (rest := []) d_RQ_readContent_223 yv_RQ_readChoice w2_87 rfl rfl rfl s0_1 (by decide) rfl hM ⟨by decide, by decide⟩ (Nat.le_of_ble_eq_true rfl) ⟨Nat.zero_le _, Nat.zero_le _⟩ (fun r S10 I10 J10 P10 hp => ?_)
      obtain ⟨rfl, hL10, z10, rfl, hq⟩ := hp
      have h := h z10 I10 J10 P10 hq
      refine xG_if_eq (tgt := 250) d_RQ_readContent_226 (by decide) (fun c => ?_) (fun c => ?_)
      · have h := h.1 c
        refine xG_iconst (v := 0) d_RQ_readContent_250 rfl ?_
        exact xG_ireturn d_RQ_readContent_251 rfl rfl ⟨rfl, hL10, _, rfl, h⟩
      · have h := h.2 c
        refine xG_aload_n d_RQ_readContent_229 rfl rfl rfl ?_
        refine xG_iconst (v := 4) d_RQ_readContent_230 rfl ?_
        refine xG_iload_n d_RQ_readContent_231 rfl rfl ?_
        obtain ⟨Q11, hM, h⟩ := h
        refine xG_callv (as := [xi 4, xi v1]) (rest := []) d_RQ_readContent_232 yv_RQ_readText w2_71 rfl rfl rfl s0_1 (by decide) rfl hM ⟨by decide, by decide⟩ (Nat.le_of_ble_eq_true rfl) ⟨Nat.zero_le _, Nat.zero_le _⟩ (fun r S11 I11 J11 P11 hp => ?_)
        obtain ⟨rfl, hL11, z11, rfl, hq⟩ := hp
        have h := h z11 I11 J11 P11 hq
        refine xG_if_eq (tgt := 250) d_RQ_readContent_235 (by decide) (fun c => ?_) (fun c => ?_)
        · have h := h.1 c
          refine xG_iconst (v := 0) d_RQ_readContent_250 rfl ?_
          exact xG_ireturn d_RQ_readContent_251 rfl rfl ⟨rfl, hL11, _, rfl, h⟩
        · have h := h.2 c
          refine xG_aload_n d_RQ_readContent_238 rfl rfl rfl ?_
          refine xG_iload_n d_RQ_readContent_239 rfl rfl ?_
          obtain ⟨Q12, hM, h⟩ := h
          refine xG_callv (as := [xi v1]) (rest := []) d_RQ_readContent_240 yv_RQ_readValues w2_83 rfl rfl rfl s0_1 (by decide) rfl hM ⟨by decide, by decide⟩ (Nat.le_of_ble_eq_true rfl) ⟨Nat.zero_le _, Nat.zero_le _⟩ (fun r S12 I12 J12 P12 hp => ?_)
          obtain ⟨rfl, hL12, z12, rfl, hq⟩ := hp
          have h := h z12 I12 J12 P12 hq
          refine xG_if_eq (tgt := 250) d_RQ_readContent_243 (by decide) (fun c => ?_) (fun c => ?_)
          · have h := h.1 c
            refine xG_iconst (v := 0) d_RQ_readContent_250 rfl ?_
            exact xG_ireturn d_RQ_readContent_251 rfl rfl ⟨rfl, hL12, _, rfl, h⟩
          · have h := h.2 c
            refine xG_iconst (v := 1) d_RQ_readContent_246 rfl ?_
            refine xG_goto (tgt := 251) d_RQ_readContent_247 (by decide) ?_
            exact xG_ireturn d_RQ_readContent_251 rfl rfl ⟨rfl, hL12, _, rfl, h⟩
  by_cases c5 : I 1 3 = 104
  · have h := h.2.2.2.2.2.1 c5
    refine xG_topi (x' := 104) c5 ?_
    refine xG_lookup (off := 174) (tgt := 178) d_RQ_readContent_4 (by decide) rfl (by decide) ?_
    refine xG_aload_n d_RQ_readContent_178 rfl rfl rfl ?_
    refine xG_iconst (v := 4) d_RQ_readContent_179 rfl ?_
    refine xG_iload_n d_RQ_readContent_180 rfl rfl ?_
    obtain ⟨Q13, hM, h⟩ := h
    refine xG_callv (as := [xi 4, xi v1]) (rest := []) d_RQ_readContent_181 yv_RQ_readText w2_71 rfl rfl rfl s0_1 (by decide) rfl hM ⟨by decide, by decide⟩ (Nat.le_of_ble_eq_true rfl) ⟨Nat.zero_le _, Nat.zero_le _⟩ (fun r S13 I13 J13 P13 hp => ?_)
    obtain ⟨rfl, hL13, z13, rfl, hq⟩ := hp
    have h := h z13 I13 J13 P13 hq
    refine xG_if_eq (tgt := 210) d_RQ_readContent_184 (by decide) (fun c => ?_) (fun c => ?_)
    · have h := h.1 c
      refine xG_iconst (v := 0) d_RQ_readContent_210 rfl ?_
      exact xG_ireturn d_RQ_readContent_211 rfl rfl ⟨rfl, hL13, _, rfl, h⟩
    · have h := h.2 c
      refine xG_aload_n d_RQ_readContent_187 rfl rfl rfl ?_
      refine xG_bipush (v := 48) d_RQ_readContent_188 rfl ?_
      refine xG_iload_n d_RQ_readContent_190 rfl rfl ?_
      obtain ⟨Q14, hM, h⟩ := h
      refine xG_callv (as := [xi 48, xi v1]) (rest := []) d_RQ_readContent_191 yv_RQ_enter w2_54 rfl rfl rfl s0_1 (by decide) rfl hM ⟨by decide, by decide⟩ (Nat.le_of_ble_eq_true rfl) ⟨Nat.zero_le _, Nat.zero_le _⟩ (fun r S14 I14 J14 P14 hp => ?_)
      obtain ⟨rfl, hL14, z14, rfl, hq⟩ := hp
      have h := h z14 I14 J14 P14 hq
      refine xG_iload_n d_RQ_readContent_194 rfl rfl ?_
      refine xG_icmp_ne (tgt := 210) d_RQ_readContent_195 (by decide) (fun c => ?_) (fun c => ?_)
      · have h := h.1 c
        refine xG_iconst (v := 0) d_RQ_readContent_210 rfl ?_
        exact xG_ireturn d_RQ_readContent_211 rfl rfl ⟨rfl, hL14, _, rfl, h⟩
      · have h := h.2 c
        refine xG_aload_n d_RQ_readContent_198 rfl rfl rfl ?_
        refine xG_iload_n d_RQ_readContent_199 rfl rfl ?_
        obtain ⟨Q15, hM, h⟩ := h
        refine xG_callv (as := [xi v1]) (rest := []) d_RQ_readContent_200 yv_RQ_readAttributes w2_79 rfl rfl rfl s0_1 (by decide) rfl hM ⟨by decide, by decide⟩ (Nat.le_of_ble_eq_true rfl) ⟨Nat.zero_le _, Nat.zero_le _⟩ (fun r S15 I15 J15 P15 hp => ?_)
        obtain ⟨rfl, hL15, z15, rfl, hq⟩ := hp
        have h := h z15 I15 J15 P15 hq
        refine xG_if_eq (tgt := 210) d_RQ_readContent_203 (by decide) (fun c => ?_) (fun c => ?_)
        · have h := h.1 c
          refine xG_iconst (v := 0) d_RQ_readContent_210 rfl ?_
          exact xG_ireturn d_RQ_readContent_211 rfl rfl ⟨rfl, hL15, _, rfl, h⟩
        · have h := h.2 c
          refine xG_iconst (v := 1) d_RQ_readContent_206 rfl ?_
          refine xG_goto (tgt := 211) d_RQ_readContent_207 (by decide) ?_
          exact xG_ireturn d_RQ_readContent_211 rfl rfl ⟨rfl, hL15, _, rfl, h⟩
  by_cases c6 : I 1 3 = 108
  · have h := h.2.2.2.2.2.2.1 c6
    refine xG_topi (x' := 108) c6 ?_
    refine xG_lookup (off := 248) (tgt := 252) d_RQ_readContent_4 (by decide) rfl (by decide) ?_
    refine xG_aload_n d_RQ_readContent_252 rfl rfl rfl ?_
    refine xG_iconst (v := 4) d_RQ_readContent_253 rfl ?_
    refine xG_iload_n d_RQ_readContent_254 rfl rfl ?_
    obtain ⟨Q16, hM, h⟩ := h
    refine xG_callv (as := [xi 4, xi v1]) (rest := []) d_RQ_readContent_255 yv_RQ_readText w2_71 rfl rfl rfl s0_1 (by decide) rfl hM ⟨by decide, by decide⟩ (Nat.le_of_ble_eq_true rfl) ⟨Nat.zero_le _, Nat.zero_le _⟩ (fun r S16 I16 J16 P16 hp => ?_)
    obtain ⟨rfl, hL16, z16, rfl, hq⟩ := hp
    have h := h z16 I16 J16 P16 hq
    refine xG_if_eq (tgt := 282) d_RQ_readContent_258 (by decide) (fun c => ?_) (fun c => ?_)
    · have h := h.1 c
      refine xG_iconst (v := 0) d_RQ_readContent_282 rfl ?_
      exact xG_ireturn d_RQ_readContent_283 rfl rfl ⟨rfl, hL16, _, rfl, h⟩
    · have h := h.2 c
      refine xG_aload_n d_RQ_readContent_261 rfl rfl rfl ?_
      refine xG_iconst (v := 4) d_RQ_readContent_262 rfl ?_
      refine xG_iload_n d_RQ_readContent_263 rfl rfl ?_
      obtain ⟨Q17, hM, h⟩ := h
      refine xG_callv (as := [xi 4, xi v1]) (rest := []) d_RQ_readContent_264 yv_RQ_readText w2_71 rfl rfl rfl s0_1 (by decide) rfl hM ⟨by decide, by decide⟩ (Nat.le_of_ble_eq_true rfl) ⟨Nat.zero_le _, Nat.zero_le _⟩ (fun r S17 I17 J17 P17 hp => ?_)
      obtain ⟨rfl, hL17, z17, rfl, hq⟩ := hp
      have h := h z17 I17 J17 P17 hq
      refine xG_if_eq (tgt := 282) d_RQ_readContent_267 (by decide) (fun c => ?_) (fun c => ?_)
      · have h := h.1 c
        refine xG_iconst (v := 0) d_RQ_readContent_282 rfl ?_
        exact xG_ireturn d_RQ_readContent_283 rfl rfl ⟨rfl, hL17, _, rfl, h⟩
      · have h := h.2 c
        refine xG_aload_n d_RQ_readContent_270 rfl rfl rfl ?_
        refine xG_iload_n d_RQ_readContent_271 rfl rfl ?_
        obtain ⟨Q18, hM, h⟩ := h
        refine xG_callv (as := [xi v1]) (rest := []) d_RQ_readContent_272 yv_RQ_readFlag w2_95 rfl rfl rfl s0_1 (by decide) rfl hM ⟨by decide, by decide⟩ (Nat.le_of_ble_eq_true rfl) ⟨Nat.zero_le _, Nat.zero_le _⟩ (fun r S18 I18 J18 P18 hp => ?_)
        obtain ⟨rfl, hL18, z18, rfl, hq⟩ := hp
        have h := h z18 I18 J18 P18 hq
        refine xG_if_eq (tgt := 282) d_RQ_readContent_275 (by decide) (fun c => ?_) (fun c => ?_)
        · have h := h.1 c
          refine xG_iconst (v := 0) d_RQ_readContent_282 rfl ?_
          exact xG_ireturn d_RQ_readContent_283 rfl rfl ⟨rfl, hL18, _, rfl, h⟩
        · have h := h.2 c
          refine xG_iconst (v := 1) d_RQ_readContent_278 rfl ?_
          refine xG_goto (tgt := 283) d_RQ_readContent_279 (by decide) ?_
          exact xG_ireturn d_RQ_readContent_283 rfl rfl ⟨rfl, hL18, _, rfl, h⟩
  by_cases c7 : I 1 3 = 110
  · have h := h.2.2.2.2.2.2.2.1 c7
    refine xG_topi (x' := 110) c7 ?_
    refine xG_lookup (off := 130) (tgt := 134) d_RQ_readContent_4 (by decide) rfl (by decide) ?_
    refine xG_aload_n d_RQ_readContent_134 rfl rfl rfl ?_
    refine xG_iconst (v := 4) d_RQ_readContent_135 rfl ?_
    refine xG_iload_n d_RQ_readContent_136 rfl rfl ?_
    obtain ⟨Q19, hM, h⟩ := h
    refine xG_callv (as := [xi 4, xi v1]) (rest := []) d_RQ_readContent_137 yv_RQ_readText w2_71 rfl rfl rfl s0_1 (by decide) rfl hM ⟨by decide, by decide⟩ (Nat.le_of_ble_eq_true rfl) ⟨Nat.zero_le _, Nat.zero_le _⟩ (fun r S19 I19 J19 P19 hp => ?_)
    obtain ⟨rfl, hL19, z19, rfl, hq⟩ := hp
    have h := h z19 I19 J19 P19 hq
    refine xG_if_eq (tgt := 176) d_RQ_readContent_140 (by decide) (fun c => ?_) (fun c => ?_)
    · have h := h.1 c
      refine xG_iconst (v := 0) d_RQ_readContent_176 rfl ?_
      exact xG_ireturn d_RQ_readContent_177 rfl rfl ⟨rfl, hL19, _, rfl, h⟩
    · have h := h.2 c
      refine xG_aload_n d_RQ_readContent_143 rfl rfl rfl ?_
      refine xG_bipush (v := 48) d_RQ_readContent_144 rfl ?_
      refine xG_iload_n d_RQ_readContent_146 rfl rfl ?_
      obtain ⟨Q20, hM, h⟩ := h
      refine xG_callv (as := [xi 48, xi v1]) (rest := []) d_RQ_readContent_147 yv_RQ_enter w2_54 rfl rfl rfl s0_1 (by decide) rfl hM ⟨by decide, by decide⟩ (Nat.le_of_ble_eq_true rfl) ⟨Nat.zero_le _, Nat.zero_le _⟩ (fun r S20 I20 J20 P20 hp => ?_)
      obtain ⟨rfl, hL20, z20, rfl, hq⟩ := hp
      have h := h z20 I20 J20 P20 hq
      refine xG_iload_n d_RQ_readContent_150 rfl rfl ?_
      refine xG_icmp_ne (tgt := 176) d_RQ_readContent_151 (by decide) (fun c => ?_) (fun c => ?_)
      · have h := h.1 c
        refine xG_iconst (v := 0) d_RQ_readContent_176 rfl ?_
        exact xG_ireturn d_RQ_readContent_177 rfl rfl ⟨rfl, hL20, _, rfl, h⟩
      · have h := h.2 c
        refine xG_aload_n d_RQ_readContent_154 rfl rfl rfl ?_
        refine xG_iconst (v := 4) d_RQ_readContent_155 rfl ?_
        refine xG_iload_n d_RQ_readContent_156 rfl rfl ?_
        obtain ⟨Q21, hM, h⟩ := h
        refine xG_callv (as := [xi 4, xi v1]) (rest := []) d_RQ_readContent_157 yv_RQ_readText w2_71 rfl rfl rfl s0_1 (by decide) rfl hM ⟨by decide, by decide⟩ (Nat.le_of_ble_eq_true rfl) ⟨Nat.zero_le _, Nat.zero_le _⟩ (fun r S21 I21 J21 P21 hp => ?_)
        obtain ⟨rfl, hL21, z21, rfl, hq⟩ := hp
        have h := h z21 I21 J21 P21 hq
        refine xG_if_eq (tgt := 176) d_RQ_readContent_160 (by decide) (fun c => ?_) (fun c => ?_)
        · have h := h.1 c
          refine xG_iconst (v := 0) d_RQ_readContent_176 rfl ?_
          exact xG_ireturn d_RQ_readContent_177 rfl rfl ⟨rfl, hL21, _, rfl, h⟩
        · have h := h.2 c
          refine xG_aload_n d_RQ_readContent_163 rfl rfl rfl ?_
          refine xG_iconst (v := 4) d_RQ_readContent_164 rfl ?_
          refine xG_iload_n d_RQ_readContent_165 rfl rfl ?_
          obtain ⟨Q22, hM, h⟩ := h
          refine xG_callv (as := [xi 4, xi v1]) (rest := []) d_RQ_readContent_166 yv_RQ_readText w2_71 rfl rfl rfl s0_1 (by decide) rfl hM ⟨by decide, by decide⟩ (Nat.le_of_ble_eq_true rfl) ⟨Nat.zero_le _, Nat.zero_le _⟩ (fun r S22 I22 J22 P22 hp => ?_)
          obtain ⟨rfl, hL22, z22, rfl, hq⟩ := hp
          have h := h z22 I22 J22 P22 hq
          refine xG_if_eq (tgt := 176) d_RQ_readContent_169 (by decide) (fun c => ?_) (fun c => ?_)
          · have h := h.1 c
            refine xG_iconst (v := 0) d_RQ_readContent_176 rfl ?_
            exact xG_ireturn d_RQ_readContent_177 rfl rfl ⟨rfl, hL22, _, rfl, h⟩
          · have h := h.2 c
            refine xG_iconst (v := 1) d_RQ_readContent_172 rfl ?_
            refine xG_goto (tgt := 177) d_RQ_readContent_173 (by decide) ?_
            exact xG_ireturn d_RQ_readContent_177 rfl rfl ⟨rfl, hL22, _, rfl, h⟩
  have h := h.2.2.2.2.2.2.2.2 c0 c1 c2 c3 c4 c5 c6 c7
  refine xG_lookup (off := 321) (tgt := 325) d_RQ_readContent_4 (by decide) (by rw [lv_osw c0 (by decide)]; rw [lv_osw c1 (by decide)]; rw [lv_osw c2 (by decide)]; rw [lv_osw c3 (by decide)]; rw [lv_osw c4 (by decide)]; rw [lv_osw c5 (by decide)]; rw [lv_osw c6 (by decide)]; rw [lv_osw c7 (by decide)]; rfl) (by decide) ?_
  refine xG_iconst (v := 0) d_RQ_readContent_325 rfl ?_
  exact xG_ireturn d_RQ_readContent_326 rfl rfl ⟨rfl, hL, _, rfl, h⟩
theorem e_RQ_readContent {l : Launch} {V : xV} {Q : Int32 → xIt → xJt → xPt → Prop} {I : xIt} {J : xJt} {P : xPt} {v1 : Int32} (h : G_RQ_readContent l V Q 0 [(0, xq (some 1)), (1, xi v1)] [] I J P) : xMet l V y_RQ_readContent 11 0 0 [xq (some 1), xi v1] xS0 I J P (xPi Q) := xMet_of (by decide) (Nat.le_of_ble_eq_true rfl) h

abbrev G_RQ_enter (l : Launch) (V : xV) (Q : Int32 → xIt → xJt → xPt → Prop) (pc : Nat) (lv : List (Nat × xX)) (st : List xX) (I : xIt) (J : xJt) (P : xPt) : Prop := xG l V y_RQ_enter (xR 1 0 0) (xFn V y_RQ_enter (xR 1 0 0) (xPi Q)) pc lv st xS0 I J P (0, 0)
set_option maxRecDepth 20000 in
theorem b_RQ_enter_0 {l : Launch} {V : xV} {Q : Int32 → xIt → xJt → xPt → Prop} {I : xIt} {J : xJt} {P : xPt} (hL : xL P) {v1 : Int32} {v2 : Int32} (h : (((v2 - (I 1 1)) < 2 → Q (-1) I J P) ∧ (¬ (v2 - (I 1 1)) < 2 → (vp_in (I 1 1) 153 ∧ (((I 2 ((I 1 1).toNatClampNeg)) = v1 → (vp_in ((I 1 1) + 1) 153 ∧ ((¬ (I 2 (((I 1 1) + 1).toNatClampNeg)) = 129 → G_RQ_enter l V Q 72 [(0, xq (some 1)), (1, xi v1), (2, xi v2), (3, xi ((I 1 1) + 2)), (4, xi (I 2 (((I 1 1) + 1).toNatClampNeg)))] [] I J P) ∧ ((I 2 (((I 1 1) + 1).toNatClampNeg)) = 129 → ((v2 ≤ ((I 1 1) + 2) → G_RQ_enter l V Q 72 [(0, xq (some 1)), (1, xi v1), (2, xi v2), (3, xi ((I 1 1) + 2)), (4, xi (I 2 (((I 1 1) + 1).toNatClampNeg)))] [] I J P) ∧ (¬ v2 ≤ ((I 1 1) + 2) → (vp_in ((I 1 1) + 2) 153 ∧ (((I 2 (((I 1 1) + 2).toNatClampNeg)) ≤ (v2 - (((I 1 1) + 2) + 1)) → Q ((((I 1 1) + 2) + 1) + (I 2 (((I 1 1) + 2).toNatClampNeg))) (xu I 1 1 (((I 1 1) + 2) + 1)) J P) ∧ (¬ (I 2 (((I 1 1) + 2).toNatClampNeg)) ≤ (v2 - (((I 1 1) + 2) + 1)) → Q (-1) I J P))))))))) ∧ (¬ (I 2 ((I 1 1).toNatClampNeg)) = v1 → Q (-1) I J P)))))) : G_RQ_enter l V Q 0 [(0, xq (some 1)), (1, xi v1), (2, xi v2)] [] I J P := by
  refine xG_iload_n d_RQ_enter_0 rfl rfl ?_
  refine xG_aload_n d_RQ_enter_1 rfl rfl rfl ?_
  refine xG_geti d_RQ_enter_2 xf_RQ_15 rfl s0_1 ?_
  refine xG_isub d_RQ_enter_5 ?_
  refine xG_iconst (v := 2) d_RQ_enter_6 rfl ?_
  refine xG_icmp_lt (tgt := 23) d_RQ_enter_7 (by decide) (fun c => ?_) (fun c => ?_)
  · have h := h.1 c
    refine xG_iconst (v := (-1)) d_RQ_enter_23 rfl ?_
    exact xG_ireturn d_RQ_enter_24 rfl rfl ⟨rfl, hL, _, rfl, h⟩
  · have h := h.2 c
    refine xG_aload_n d_RQ_enter_10 rfl rfl rfl ?_
    refine xG_getq d_RQ_enter_11 xf_RQ_9 rfl s0_1 ?_
    refine xG_aload_n d_RQ_enter_14 rfl rfl rfl ?_
    refine xG_geti d_RQ_enter_15 xf_RQ_15 rfl s0_1 ?_
    refine xG_iald d_RQ_enter_18 (lp_1_0 hL) s0_2 h.1 ?_
    have h := h.2
    refine xG_topi (x' := I 2 ((I 1 1).toNatClampNeg)) (by first | rfl | exact xu_at | simp [xu]) ?_
    refine xG_iload_n d_RQ_enter_19 rfl rfl ?_
    refine xG_icmp_eq (tgt := 25) d_RQ_enter_20 (by decide) (fun c => ?_) (fun c => ?_)
    · have h := h.1 c
      refine xG_aload_n d_RQ_enter_25 rfl rfl rfl ?_
      refine xG_geti d_RQ_enter_26 xf_RQ_15 rfl s0_1 ?_
      refine xG_iconst (v := 2) d_RQ_enter_29 rfl ?_
      refine xG_iadd d_RQ_enter_30 ?_
      refine xG_istore_n (lv' := [(3, xi ((I 1 1) + 2)), (0, xq (some 1)), (1, xi v1), (2, xi v2)]) d_RQ_enter_31 rfl (Nat.le_of_ble_eq_true rfl) rfl ?_
      refine xG_aload_n d_RQ_enter_32 rfl rfl rfl ?_
      refine xG_getq d_RQ_enter_33 xf_RQ_9 rfl s0_1 ?_
      refine xG_aload_n d_RQ_enter_36 rfl rfl rfl ?_
      refine xG_geti d_RQ_enter_37 xf_RQ_15 rfl s0_1 ?_
      refine xG_iconst (v := 1) d_RQ_enter_40 rfl ?_
      refine xG_iadd d_RQ_enter_41 ?_
      refine xG_iald d_RQ_enter_42 (lp_1_0 hL) s0_2 h.1 ?_
      have h := h.2
      refine xG_topi (x' := I 2 (((I 1 1) + 1).toNatClampNeg)) (by first | rfl | exact xu_at | simp [xu]) ?_
      refine xG_istore (lv' := [(4, xi (I 2 (((I 1 1) + 1).toNatClampNeg))), (3, xi ((I 1 1) + 2)), (0, xq (some 1)), (1, xi v1), (2, xi v2)]) d_RQ_enter_43 (Nat.le_of_ble_eq_true rfl) rfl ?_
      refine xG_iload d_RQ_enter_45 rfl ?_
      refine xG_sipush (v := 129) d_RQ_enter_47 rfl ?_
      refine xG_icmp_ne (tgt := 72) d_RQ_enter_50 (by decide) (fun c => ?_) (fun c => ?_)
      · have h := h.1 c
        refine xG_pick [2, 3, 4, 1, 0] rfl ?_
        exact h
      · have h := h.2 c
        refine xG_iload_n d_RQ_enter_53 rfl rfl ?_
        refine xG_iload_n d_RQ_enter_54 rfl rfl ?_
        refine xG_icmp_ge (tgt := 72) d_RQ_enter_55 (by decide) (fun c => ?_) (fun c => ?_)
        · have h := h.1 c
          refine xG_pick [2, 3, 4, 1, 0] rfl ?_
          exact h
        · have h := h.2 c
          refine xG_aload_n d_RQ_enter_58 rfl rfl rfl ?_
          refine xG_getq d_RQ_enter_59 xf_RQ_9 rfl s0_1 ?_
          refine xG_iload_n d_RQ_enter_62 rfl rfl ?_
          refine xG_iald d_RQ_enter_63 (lp_1_0 hL) s0_2 h.1 ?_
          have h := h.2
          refine xG_topi (x' := I 2 (((I 1 1) + 2).toNatClampNeg)) (by first | rfl | exact xu_at | simp [xu]) ?_
          refine xG_istore (lv' := [(4, xi (I 2 (((I 1 1) + 2).toNatClampNeg))), (3, xi ((I 1 1) + 2)), (0, xq (some 1)), (1, xi v1), (2, xi v2)]) d_RQ_enter_64 (Nat.le_of_ble_eq_true rfl) rfl ?_
          refine xG_iinc (v := ((I 1 1) + 2) + 1) (lv' := [(3, xi (((I 1 1) + 2) + 1)), (4, xi (I 2 (((I 1 1) + 2).toNatClampNeg))), (0, xq (some 1)), (1, xi v1), (2, xi v2)]) d_RQ_enter_66 rfl rfl (Nat.le_of_ble_eq_true rfl) rfl ?_
          refine xG_goto (tgt := 82) d_RQ_enter_69 (by decide) ?_
          refine xG_iload d_RQ_enter_82 rfl ?_
          refine xG_iload_n d_RQ_enter_84 rfl rfl ?_
          refine xG_iload_n d_RQ_enter_85 rfl rfl ?_
          refine xG_isub d_RQ_enter_86 ?_
          refine xG_icmp_le (tgt := 92) d_RQ_enter_87 (by decide) (fun c => ?_) (fun c => ?_)
          · have h := h.1 c
            refine xG_aload_n d_RQ_enter_92 rfl rfl rfl ?_
            refine xG_iload_n d_RQ_enter_93 rfl rfl ?_
            refine xG_puti d_RQ_enter_94 xf_RQ_15 (Or.inl rfl) rfl s0_1 rfl rfl ?_
            refine xG_iload_n d_RQ_enter_97 rfl rfl ?_
            refine xG_iload d_RQ_enter_98 rfl ?_
            refine xG_iadd d_RQ_enter_100 ?_
            exact xG_ireturn d_RQ_enter_101 rfl rfl ⟨rfl, hL, _, rfl, h⟩
          · have h := h.2 c
            refine xG_iconst (v := (-1)) d_RQ_enter_90 rfl ?_
            exact xG_ireturn d_RQ_enter_91 rfl rfl ⟨rfl, hL, _, rfl, h⟩
    · have h := h.2 c
      refine xG_iconst (v := (-1)) d_RQ_enter_23 rfl ?_
      exact xG_ireturn d_RQ_enter_24 rfl rfl ⟨rfl, hL, _, rfl, h⟩
set_option maxRecDepth 20000 in
theorem b_RQ_enter_72 {l : Launch} {V : xV} {Q : Int32 → xIt → xJt → xPt → Prop} {I : xIt} {J : xJt} {P : xPt} (hL : xL P) {v1 : Int32} {v2 : Int32} {v3 : Int32} {v4 : Int32} (h : ((v4 < 128 → ((v4 ≤ (v2 - v3) → Q (v3 + v4) (xu I 1 1 v3) J P) ∧ (¬ v4 ≤ (v2 - v3) → Q (-1) I J P))) ∧ (¬ v4 < 128 → Q (-1) I J P))) : G_RQ_enter l V Q 72 [(0, xq (some 1)), (1, xi v1), (2, xi v2), (3, xi v3), (4, xi v4)] [] I J P := by
  refine xG_iload d_RQ_enter_72 rfl ?_
  refine xG_sipush (v := 128) d_RQ_enter_74 rfl ?_
  refine xG_icmp_lt (tgt := 82) d_RQ_enter_77 (by decide) (fun c => ?_) (fun c => ?_)
  · have h := h.1 c
    refine xG_iload d_RQ_enter_82 rfl ?_
    refine xG_iload_n d_RQ_enter_84 rfl rfl ?_
    refine xG_iload_n d_RQ_enter_85 rfl rfl ?_
    refine xG_isub d_RQ_enter_86 ?_
    refine xG_icmp_le (tgt := 92) d_RQ_enter_87 (by decide) (fun c => ?_) (fun c => ?_)
    · have h := h.1 c
      refine xG_aload_n d_RQ_enter_92 rfl rfl rfl ?_
      refine xG_iload_n d_RQ_enter_93 rfl rfl ?_
      refine xG_puti d_RQ_enter_94 xf_RQ_15 (Or.inl rfl) rfl s0_1 rfl rfl ?_
      refine xG_iload_n d_RQ_enter_97 rfl rfl ?_
      refine xG_iload d_RQ_enter_98 rfl ?_
      refine xG_iadd d_RQ_enter_100 ?_
      exact xG_ireturn d_RQ_enter_101 rfl rfl ⟨rfl, hL, _, rfl, h⟩
    · have h := h.2 c
      refine xG_iconst (v := (-1)) d_RQ_enter_90 rfl ?_
      exact xG_ireturn d_RQ_enter_91 rfl rfl ⟨rfl, hL, _, rfl, h⟩
  · have h := h.2 c
    refine xG_iconst (v := (-1)) d_RQ_enter_80 rfl ?_
    exact xG_ireturn d_RQ_enter_81 rfl rfl ⟨rfl, hL, _, rfl, h⟩
theorem e_RQ_enter {l : Launch} {V : xV} {Q : Int32 → xIt → xJt → xPt → Prop} {I : xIt} {J : xJt} {P : xPt} {v1 : Int32} {v2 : Int32} (h : G_RQ_enter l V Q 0 [(0, xq (some 1)), (1, xi v1), (2, xi v2)] [] I J P) : xMet l V y_RQ_enter 1 0 0 [xq (some 1), xi v1, xi v2] xS0 I J P (xPi Q) := xMet_of (by decide) (Nat.le_of_ble_eq_true rfl) h

abbrev G_RQ_readNumber (l : Launch) (V : xV) (Q : Int32 → xIt → xJt → xPt → Prop) (pc : Nat) (lv : List (Nat × xX)) (st : List xX) (I : xIt) (J : xJt) (P : xPt) : Prop := xG l V y_RQ_readNumber (xR 2 0 0) (xFn V y_RQ_readNumber (xR 2 0 0) (xPi Q)) pc lv st xS0 I J P (0, 0)
set_option maxRecDepth 20000 in
theorem b_RQ_readNumber_0 {l : Launch} {V : xV} {Q : Int32 → xIt → xJt → xPt → Prop} {I : xIt} {J : xJt} {P : xPt} (hL : xL P) {v1 : Int32} (h : (∃ Q1 : Int32 → xIt → xJt → xPt → Prop, xMet l V y_RQ_enter 1 0 0 [xq (some 1), xi 2, xi v1] xS0 I J P (xPi Q1) ∧ ∀ (z1 : Int32) (I1 : xIt) (J1 : xJt) (P1 : xPt), Q1 z1 I1 J1 P1 → ((z1 < 0 → Q (-65536) I1 J1 P1) ∧ (¬ z1 < 0 → (((z1 - (I1 1 1)) < 1 → Q (-65536) I1 J1 P1) ∧ (¬ (z1 - (I1 1 1)) < 1 → (((z1 - (I1 1 1)) ≤ 2 → (vp_in (I1 1 1) 153 ∧ ((¬ (z1 - (I1 1 1)) = 2 → Q ((I1 2 ((I1 1 1).toNatClampNeg)).toInt8.toInt32) (xu I1 1 1 z1) J1 P1) ∧ ((z1 - (I1 1 1)) = 2 → (vp_in ((I1 1 1) + 1) 153 ∧ Q ((((I1 2 ((I1 1 1).toNatClampNeg)).toInt8.toInt32) <<< (8 &&& 31)) ||| (I1 2 (((I1 1 1) + 1).toNatClampNeg))) (xu I1 1 1 z1) J1 P1))))) ∧ (¬ (z1 - (I1 1 1)) ≤ 2 → Q (-65536) I1 J1 P1)))))))) : G_RQ_readNumber l V Q 0 [(0, xq (some 1)), (1, xi v1)] [] I J P := by
  refine xG_aload_n d_RQ_readNumber_0 rfl rfl rfl ?_
  refine xG_iconst (v := 2) d_RQ_readNumber_1 rfl ?_
  refine xG_iload_n d_RQ_readNumber_2 rfl rfl ?_
  obtain ⟨Q1, hM, h⟩ := h
  refine xG_callv (as := [xi 2, xi v1]) (rest := []) d_RQ_readNumber_3 yv_RQ_enter w2_54 rfl rfl rfl s0_1 (by decide) rfl hM ⟨by decide, by decide⟩ (Nat.le_of_ble_eq_true rfl) ⟨Nat.zero_le _, Nat.zero_le _⟩ (fun r S1 I1 J1 P1 hp => ?_)
  obtain ⟨rfl, hL1, z1, rfl, hq⟩ := hp
  have h := h z1 I1 J1 P1 hq
  refine xG_istore_n (lv' := [(2, xi z1), (0, xq (some 1)), (1, xi v1)]) d_RQ_readNumber_6 rfl (Nat.le_of_ble_eq_true rfl) rfl ?_
  refine xG_iload_n d_RQ_readNumber_7 rfl rfl ?_
  refine xG_if_lt (tgt := 31) d_RQ_readNumber_8 (by decide) (fun c => ?_) (fun c => ?_)
  · have h := h.1 c
    refine xG_ldc (v := (-65536)) d_RQ_readNumber_31 w2_62 ?_
    exact xG_ireturn d_RQ_readNumber_33 rfl rfl ⟨rfl, hL1, _, rfl, h⟩
  · have h := h.2 c
    refine xG_iload_n d_RQ_readNumber_11 rfl rfl ?_
    refine xG_aload_n d_RQ_readNumber_12 rfl rfl rfl ?_
    refine xG_geti d_RQ_readNumber_13 xf_RQ_15 rfl s0_1 ?_
    refine xG_isub d_RQ_readNumber_16 ?_
    refine xG_iconst (v := 1) d_RQ_readNumber_17 rfl ?_
    refine xG_icmp_lt (tgt := 31) d_RQ_readNumber_18 (by decide) (fun c => ?_) (fun c => ?_)
    · have h := h.1 c
      refine xG_ldc (v := (-65536)) d_RQ_readNumber_31 w2_62 ?_
      exact xG_ireturn d_RQ_readNumber_33 rfl rfl ⟨rfl, hL1, _, rfl, h⟩
    · have h := h.2 c
      refine xG_iload_n d_RQ_readNumber_21 rfl rfl ?_
      refine xG_aload_n d_RQ_readNumber_22 rfl rfl rfl ?_
      refine xG_geti d_RQ_readNumber_23 xf_RQ_15 rfl s0_1 ?_
      refine xG_isub d_RQ_readNumber_26 ?_
      refine xG_iconst (v := 2) d_RQ_readNumber_27 rfl ?_
      refine xG_icmp_le (tgt := 34) d_RQ_readNumber_28 (by decide) (fun c => ?_) (fun c => ?_)
      · have h := h.1 c
        refine xG_aload_n d_RQ_readNumber_34 rfl rfl rfl ?_
        refine xG_getq d_RQ_readNumber_35 xf_RQ_9 rfl s0_1 ?_
        refine xG_aload_n d_RQ_readNumber_38 rfl rfl rfl ?_
        refine xG_geti d_RQ_readNumber_39 xf_RQ_15 rfl s0_1 ?_
        refine xG_iald d_RQ_readNumber_42 (lp_1_0 hL1) s0_2 h.1 ?_
        have h := h.2
        refine xG_topi (x' := I1 2 ((I1 1 1).toNatClampNeg)) (by first | rfl | exact xu_at | simp [xu]) ?_
        refine xG_i2b d_RQ_readNumber_43 ?_
        refine xG_istore_n (lv' := [(3, xi ((I1 2 ((I1 1 1).toNatClampNeg)).toInt8.toInt32)), (2, xi z1), (0, xq (some 1)), (1, xi v1)]) d_RQ_readNumber_44 rfl (Nat.le_of_ble_eq_true rfl) rfl ?_
        refine xG_iload_n d_RQ_readNumber_45 rfl rfl ?_
        refine xG_aload_n d_RQ_readNumber_46 rfl rfl rfl ?_
        refine xG_geti d_RQ_readNumber_47 xf_RQ_15 rfl s0_1 ?_
        refine xG_isub d_RQ_readNumber_50 ?_
        refine xG_iconst (v := 2) d_RQ_readNumber_51 rfl ?_
        refine xG_icmp_ne (tgt := 72) d_RQ_readNumber_52 (by decide) (fun c => ?_) (fun c => ?_)
        · have h := h.1 c
          refine xG_aload_n d_RQ_readNumber_72 rfl rfl rfl ?_
          refine xG_iload_n d_RQ_readNumber_73 rfl rfl ?_
          refine xG_puti d_RQ_readNumber_74 xf_RQ_15 (Or.inl rfl) rfl s0_1 rfl rfl ?_
          refine xG_iload_n d_RQ_readNumber_77 rfl rfl ?_
          exact xG_ireturn d_RQ_readNumber_78 rfl rfl ⟨rfl, hL1, _, rfl, h⟩
        · have h := h.2 c
          refine xG_iload_n d_RQ_readNumber_55 rfl rfl ?_
          refine xG_bipush (v := 8) d_RQ_readNumber_56 rfl ?_
          refine xG_ishl d_RQ_readNumber_58 ?_
          refine xG_aload_n d_RQ_readNumber_59 rfl rfl rfl ?_
          refine xG_getq d_RQ_readNumber_60 xf_RQ_9 rfl s0_1 ?_
          refine xG_aload_n d_RQ_readNumber_63 rfl rfl rfl ?_
          refine xG_geti d_RQ_readNumber_64 xf_RQ_15 rfl s0_1 ?_
          refine xG_iconst (v := 1) d_RQ_readNumber_67 rfl ?_
          refine xG_iadd d_RQ_readNumber_68 ?_
          refine xG_iald d_RQ_readNumber_69 (lp_1_0 hL1) s0_2 h.1 ?_
          have h := h.2
          refine xG_topi (x' := I1 2 (((I1 1 1) + 1).toNatClampNeg)) (by first | rfl | exact xu_at | simp [xu]) ?_
          refine xG_ior d_RQ_readNumber_70 ?_
          refine xG_istore_n (lv' := [(3, xi ((((I1 2 ((I1 1 1).toNatClampNeg)).toInt8.toInt32) <<< (8 &&& 31)) ||| (I1 2 (((I1 1 1) + 1).toNatClampNeg)))), (2, xi z1), (0, xq (some 1)), (1, xi v1)]) d_RQ_readNumber_71 rfl (Nat.le_of_ble_eq_true rfl) rfl ?_
          refine xG_aload_n d_RQ_readNumber_72 rfl rfl rfl ?_
          refine xG_iload_n d_RQ_readNumber_73 rfl rfl ?_
          refine xG_puti d_RQ_readNumber_74 xf_RQ_15 (Or.inl rfl) rfl s0_1 rfl rfl ?_
          refine xG_iload_n d_RQ_readNumber_77 rfl rfl ?_
          exact xG_ireturn d_RQ_readNumber_78 rfl rfl ⟨rfl, hL1, _, rfl, h⟩
      · have h := h.2 c
        refine xG_ldc (v := (-65536)) d_RQ_readNumber_31 w2_62 ?_
        exact xG_ireturn d_RQ_readNumber_33 rfl rfl ⟨rfl, hL1, _, rfl, h⟩
theorem e_RQ_readNumber {l : Launch} {V : xV} {Q : Int32 → xIt → xJt → xPt → Prop} {I : xIt} {J : xJt} {P : xPt} {v1 : Int32} (h : G_RQ_readNumber l V Q 0 [(0, xq (some 1)), (1, xi v1)] [] I J P) : xMet l V y_RQ_readNumber 2 0 0 [xq (some 1), xi v1] xS0 I J P (xPi Q) := xMet_of (by decide) (Nat.le_of_ble_eq_true rfl) h

abbrev G_RQ_readVersion (l : Launch) (V : xV) (Q : Int32 → xIt → xJt → xPt → Prop) (pc : Nat) (lv : List (Nat × xX)) (st : List xX) (I : xIt) (J : xJt) (P : xPt) : Prop := xG l V y_RQ_readVersion (xR 3 0 0) (xFn V y_RQ_readVersion (xR 3 0 0) (xPi Q)) pc lv st xS0 I J P (0, 0)
set_option maxRecDepth 20000 in
theorem b_RQ_readVersion_0 {l : Launch} {V : xV} {Q : Int32 → xIt → xJt → xPt → Prop} {I : xIt} {J : xJt} {P : xPt} (hL : xL P) {v1 : Int32} (h : (∃ Q1 : Int32 → xIt → xJt → xPt → Prop, xMet l V y_RQ_readNumber 2 0 0 [xq (some 1), xi v1] xS0 I J P (xPi Q1) ∧ ∀ (z1 : Int32) (I1 : xIt) (J1 : xJt) (P1 : xPt), Q1 z1 I1 J1 P1 → ((z1 = (-65536) → Q 0 (xu I1 1 4 z1) J1 P1) ∧ (¬ z1 = (-65536) → Q 1 (xu I1 1 4 z1) J1 P1)))) : G_RQ_readVersion l V Q 0 [(0, xq (some 1)), (1, xi v1)] [] I J P := by
  refine xG_aload_n d_RQ_readVersion_0 rfl rfl rfl ?_
  refine xG_aload_n d_RQ_readVersion_1 rfl rfl rfl ?_
  refine xG_iload_n d_RQ_readVersion_2 rfl rfl ?_
  obtain ⟨Q1, hM, h⟩ := h
  refine xG_callv (as := [xi v1]) (rest := [xq (some 1)]) d_RQ_readVersion_3 yv_RQ_readNumber w2_58 rfl rfl rfl s0_1 (by decide) rfl hM ⟨by decide, by decide⟩ (Nat.le_of_ble_eq_true rfl) ⟨Nat.zero_le _, Nat.zero_le _⟩ (fun r S1 I1 J1 P1 hp => ?_)
  obtain ⟨rfl, hL1, z1, rfl, hq⟩ := hp
  have h := h z1 I1 J1 P1 hq
  refine xG_puti d_RQ_readVersion_6 xf_RQ_25 (Or.inl rfl) rfl s0_1 rfl rfl ?_
  refine xG_aload_n d_RQ_readVersion_9 rfl rfl rfl ?_
  refine xG_geti d_RQ_readVersion_10 xf_RQ_25 rfl s0_1 ?_
  refine xG_topi (x' := z1) (by first | rfl | exact xu_at | simp [xu]) ?_
  refine xG_ldc (v := (-65536)) d_RQ_readVersion_13 w2_62 ?_
  refine xG_icmp_eq (tgt := 22) d_RQ_readVersion_15 (by decide) (fun c => ?_) (fun c => ?_)
  · have h := h.1 c
    refine xG_iconst (v := 0) d_RQ_readVersion_22 rfl ?_
    exact xG_ireturn d_RQ_readVersion_23 rfl rfl ⟨rfl, hL1, _, rfl, h⟩
  · have h := h.2 c
    refine xG_iconst (v := 1) d_RQ_readVersion_18 rfl ?_
    refine xG_goto (tgt := 23) d_RQ_readVersion_19 (by decide) ?_
    exact xG_ireturn d_RQ_readVersion_23 rfl rfl ⟨rfl, hL1, _, rfl, h⟩
theorem e_RQ_readVersion {l : Launch} {V : xV} {Q : Int32 → xIt → xJt → xPt → Prop} {I : xIt} {J : xJt} {P : xPt} {v1 : Int32} (h : G_RQ_readVersion l V Q 0 [(0, xq (some 1)), (1, xi v1)] [] I J P) : xMet l V y_RQ_readVersion 3 0 0 [xq (some 1), xi v1] xS0 I J P (xPi Q) := xMet_of (by decide) (Nat.le_of_ble_eq_true rfl) h

abbrev G_RQ_readLimit (l : Launch) (V : xV) (Q : Int32 → xIt → xJt → xPt → Prop) (pc : Nat) (lv : List (Nat × xX)) (st : List xX) (I : xIt) (J : xJt) (P : xPt) : Prop := xG l V y_RQ_readLimit (xR 3 0 0) (xFn V y_RQ_readLimit (xR 3 0 0) (xPi Q)) pc lv st xS0 I J P (0, 0)
set_option maxRecDepth 20000 in
theorem b_RQ_readLimit_0 {l : Launch} {V : xV} {Q : Int32 → xIt → xJt → xPt → Prop} {I : xIt} {J : xJt} {P : xPt} (hL : xL P) {v1 : Int32} (h : (∃ Q1 : Int32 → xIt → xJt → xPt → Prop, xMet l V y_RQ_readNumber 2 0 0 [xq (some 1), xi v1] xS0 I J P (xPi Q1) ∧ ∀ (z1 : Int32) (I1 : xIt) (J1 : xJt) (P1 : xPt), Q1 z1 I1 J1 P1 → ((z1 < 0 → Q 0 (xu I1 1 4 z1) J1 P1) ∧ (¬ z1 < 0 → Q 1 (xu I1 1 4 z1) J1 P1)))) : G_RQ_readLimit l V Q 0 [(0, xq (some 1)), (1, xi v1)] [] I J P := by
  refine xG_aload_n d_RQ_readLimit_0 rfl rfl rfl ?_
  refine xG_aload_n d_RQ_readLimit_1 rfl rfl rfl ?_
  refine xG_iload_n d_RQ_readLimit_2 rfl rfl ?_
  obtain ⟨Q1, hM, h⟩ := h
  refine xG_callv (as := [xi v1]) (rest := [xq (some 1)]) d_RQ_readLimit_3 yv_RQ_readNumber w2_58 rfl rfl rfl s0_1 (by decide) rfl hM ⟨by decide, by decide⟩ (Nat.le_of_ble_eq_true rfl) ⟨Nat.zero_le _, Nat.zero_le _⟩ (fun r S1 I1 J1 P1 hp => ?_)
  obtain ⟨rfl, hL1, z1, rfl, hq⟩ := hp
  have h := h z1 I1 J1 P1 hq
  refine xG_puti d_RQ_readLimit_6 xf_RQ_25 (Or.inl rfl) rfl s0_1 rfl rfl ?_
  refine xG_aload_n d_RQ_readLimit_9 rfl rfl rfl ?_
  refine xG_geti d_RQ_readLimit_10 xf_RQ_25 rfl s0_1 ?_
  refine xG_topi (x' := z1) (by first | rfl | exact xu_at | simp [xu]) ?_
  refine xG_if_lt (tgt := 20) d_RQ_readLimit_13 (by decide) (fun c => ?_) (fun c => ?_)
  · have h := h.1 c
    refine xG_iconst (v := 0) d_RQ_readLimit_20 rfl ?_
    exact xG_ireturn d_RQ_readLimit_21 rfl rfl ⟨rfl, hL1, _, rfl, h⟩
  · have h := h.2 c
    refine xG_iconst (v := 1) d_RQ_readLimit_16 rfl ?_
    refine xG_goto (tgt := 21) d_RQ_readLimit_17 (by decide) ?_
    exact xG_ireturn d_RQ_readLimit_21 rfl rfl ⟨rfl, hL1, _, rfl, h⟩
theorem e_RQ_readLimit {l : Launch} {V : xV} {Q : Int32 → xIt → xJt → xPt → Prop} {I : xIt} {J : xJt} {P : xPt} {v1 : Int32} (h : G_RQ_readLimit l V Q 0 [(0, xq (some 1)), (1, xi v1)] [] I J P) : xMet l V y_RQ_readLimit 3 0 0 [xq (some 1), xi v1] xS0 I J P (xPi Q) := xMet_of (by decide) (Nat.le_of_ble_eq_true rfl) h

abbrev G_RQ_readByte (l : Launch) (V : xV) (Q : Int32 → xIt → xJt → xPt → Prop) (pc : Nat) (lv : List (Nat × xX)) (st : List xX) (I : xIt) (J : xJt) (P : xPt) : Prop := xG l V y_RQ_readByte (xR 2 0 0) (xFn V y_RQ_readByte (xR 2 0 0) (xPi Q)) pc lv st xS0 I J P (0, 0)
set_option maxRecDepth 20000 in
theorem b_RQ_readByte_0 {l : Launch} {V : xV} {Q : Int32 → xIt → xJt → xPt → Prop} {I : xIt} {J : xJt} {P : xPt} (hL : xL P) {v1 : Int32} {v2 : Int32} (h : (∃ Q1 : Int32 → xIt → xJt → xPt → Prop, xMet l V y_RQ_enter 1 0 0 [xq (some 1), xi v1, xi v2] xS0 I J P (xPi Q1) ∧ ∀ (z1 : Int32) (I1 : xIt) (J1 : xJt) (P1 : xPt), Q1 z1 I1 J1 P1 → ((z1 < 0 → Q (-1) I1 J1 P1) ∧ (¬ z1 < 0 → (((z1 - (I1 1 1)) = 1 → (vp_in (z1 - 1) 153 ∧ Q (I1 2 ((z1 - 1).toNatClampNeg)) (xu I1 1 1 z1) J1 P1)) ∧ (¬ (z1 - (I1 1 1)) = 1 → Q (-1) I1 J1 P1)))))) : G_RQ_readByte l V Q 0 [(0, xq (some 1)), (1, xi v1), (2, xi v2)] [] I J P := by
  refine xG_aload_n d_RQ_readByte_0 rfl rfl rfl ?_
  refine xG_iload_n d_RQ_readByte_1 rfl rfl ?_
  refine xG_iload_n d_RQ_readByte_2 rfl rfl ?_
  obtain ⟨Q1, hM, h⟩ := h
  refine xG_callv (as := [xi v1, xi v2]) (rest := []) d_RQ_readByte_3 yv_RQ_enter w2_54 rfl rfl rfl s0_1 (by decide) rfl hM ⟨by decide, by decide⟩ (Nat.le_of_ble_eq_true rfl) ⟨Nat.zero_le _, Nat.zero_le _⟩ (fun r S1 I1 J1 P1 hp => ?_)
  obtain ⟨rfl, hL1, z1, rfl, hq⟩ := hp
  have h := h z1 I1 J1 P1 hq
  refine xG_istore_n (lv' := [(3, xi z1), (0, xq (some 1)), (1, xi v1), (2, xi v2)]) d_RQ_readByte_6 rfl (Nat.le_of_ble_eq_true rfl) rfl ?_
  refine xG_iload_n d_RQ_readByte_7 rfl rfl ?_
  refine xG_if_lt (tgt := 21) d_RQ_readByte_8 (by decide) (fun c => ?_) (fun c => ?_)
  · have h := h.1 c
    refine xG_iconst (v := (-1)) d_RQ_readByte_21 rfl ?_
    exact xG_ireturn d_RQ_readByte_22 rfl rfl ⟨rfl, hL1, _, rfl, h⟩
  · have h := h.2 c
    refine xG_iload_n d_RQ_readByte_11 rfl rfl ?_
    refine xG_aload_n d_RQ_readByte_12 rfl rfl rfl ?_
    refine xG_geti d_RQ_readByte_13 xf_RQ_15 rfl s0_1 ?_
    refine xG_isub d_RQ_readByte_16 ?_
    refine xG_iconst (v := 1) d_RQ_readByte_17 rfl ?_
    refine xG_icmp_eq (tgt := 23) d_RQ_readByte_18 (by decide) (fun c => ?_) (fun c => ?_)
    · have h := h.1 c
      refine xG_aload_n d_RQ_readByte_23 rfl rfl rfl ?_
      refine xG_iload_n d_RQ_readByte_24 rfl rfl ?_
      refine xG_puti d_RQ_readByte_25 xf_RQ_15 (Or.inl rfl) rfl s0_1 rfl rfl ?_
      refine xG_aload_n d_RQ_readByte_28 rfl rfl rfl ?_
      refine xG_getq d_RQ_readByte_29 xf_RQ_9 rfl s0_1 ?_
      refine xG_iload_n d_RQ_readByte_32 rfl rfl ?_
      refine xG_iconst (v := 1) d_RQ_readByte_33 rfl ?_
      refine xG_isub d_RQ_readByte_34 ?_
      refine xG_iald d_RQ_readByte_35 (lp_1_0 hL1) s0_2 h.1 ?_
      have h := h.2
      refine xG_topi (x' := I1 2 ((z1 - 1).toNatClampNeg)) (by first | rfl | exact xu_at | simp [xu]) ?_
      exact xG_ireturn d_RQ_readByte_36 rfl rfl ⟨rfl, hL1, _, rfl, h⟩
    · have h := h.2 c
      refine xG_iconst (v := (-1)) d_RQ_readByte_21 rfl ?_
      exact xG_ireturn d_RQ_readByte_22 rfl rfl ⟨rfl, hL1, _, rfl, h⟩
theorem e_RQ_readByte {l : Launch} {V : xV} {Q : Int32 → xIt → xJt → xPt → Prop} {I : xIt} {J : xJt} {P : xPt} {v1 : Int32} {v2 : Int32} (h : G_RQ_readByte l V Q 0 [(0, xq (some 1)), (1, xi v1), (2, xi v2)] [] I J P) : xMet l V y_RQ_readByte 2 0 0 [xq (some 1), xi v1, xi v2] xS0 I J P (xPi Q) := xMet_of (by decide) (Nat.le_of_ble_eq_true rfl) h

abbrev G_RQ_readChoice (l : Launch) (V : xV) (Q : Int32 → xIt → xJt → xPt → Prop) (pc : Nat) (lv : List (Nat × xX)) (st : List xX) (I : xIt) (J : xJt) (P : xPt) : Prop := xG l V y_RQ_readChoice (xR 3 0 0) (xFn V y_RQ_readChoice (xR 3 0 0) (xPi Q)) pc lv st xS0 I J P (0, 0)
set_option maxRecDepth 20000 in
theorem b_RQ_readChoice_0 {l : Launch} {V : xV} {Q : Int32 → xIt → xJt → xPt → Prop} {I : xIt} {J : xJt} {P : xPt} (hL : xL P) {v1 : Int32} (h : (∃ Q1 : Int32 → xIt → xJt → xPt → Prop, xMet l V y_RQ_readByte 2 0 0 [xq (some 1), xi 10, xi v1] xS0 I J P (xPi Q1) ∧ ∀ (z1 : Int32) (I1 : xIt) (J1 : xJt) (P1 : xPt), Q1 z1 I1 J1 P1 → ((z1 < 0 → Q 0 (xu I1 1 5 z1) J1 P1) ∧ (¬ z1 < 0 → ((2 < z1 → Q 0 (xu I1 1 5 z1) J1 P1) ∧ (¬ 2 < z1 → Q 1 (xu I1 1 5 z1) J1 P1)))))) : G_RQ_readChoice l V Q 0 [(0, xq (some 1)), (1, xi v1)] [] I J P := by
  refine xG_aload_n d_RQ_readChoice_0 rfl rfl rfl ?_
  refine xG_aload_n d_RQ_readChoice_1 rfl rfl rfl ?_
  refine xG_bipush (v := 10) d_RQ_readChoice_2 rfl ?_
  refine xG_iload_n d_RQ_readChoice_4 rfl rfl ?_
  obtain ⟨Q1, hM, h⟩ := h
  refine xG_callv (as := [xi 10, xi v1]) (rest := [xq (some 1)]) d_RQ_readChoice_5 yv_RQ_readByte w2_91 rfl rfl rfl s0_1 (by decide) rfl hM ⟨by decide, by decide⟩ (Nat.le_of_ble_eq_true rfl) ⟨Nat.zero_le _, Nat.zero_le _⟩ (fun r S1 I1 J1 P1 hp => ?_)
  obtain ⟨rfl, hL1, z1, rfl, hq⟩ := hp
  have h := h z1 I1 J1 P1 hq
  refine xG_puti d_RQ_readChoice_8 xf_RQ_28 (Or.inl rfl) rfl s0_1 rfl rfl ?_
  refine xG_aload_n d_RQ_readChoice_11 rfl rfl rfl ?_
  refine xG_geti d_RQ_readChoice_12 xf_RQ_28 rfl s0_1 ?_
  refine xG_topi (x' := z1) (by first | rfl | exact xu_at | simp [xu]) ?_
  refine xG_if_lt (tgt := 30) d_RQ_readChoice_15 (by decide) (fun c => ?_) (fun c => ?_)
  · have h := h.1 c
    refine xG_iconst (v := 0) d_RQ_readChoice_30 rfl ?_
    exact xG_ireturn d_RQ_readChoice_31 rfl rfl ⟨rfl, hL1, _, rfl, h⟩
  · have h := h.2 c
    refine xG_aload_n d_RQ_readChoice_18 rfl rfl rfl ?_
    refine xG_geti d_RQ_readChoice_19 xf_RQ_28 rfl s0_1 ?_
    refine xG_topi (x' := z1) (by first | rfl | exact xu_at | simp [xu]) ?_
    refine xG_iconst (v := 2) d_RQ_readChoice_22 rfl ?_
    refine xG_icmp_gt (tgt := 30) d_RQ_readChoice_23 (by decide) (fun c => ?_) (fun c => ?_)
    · have h := h.1 c
      refine xG_iconst (v := 0) d_RQ_readChoice_30 rfl ?_
      exact xG_ireturn d_RQ_readChoice_31 rfl rfl ⟨rfl, hL1, _, rfl, h⟩
    · have h := h.2 c
      refine xG_iconst (v := 1) d_RQ_readChoice_26 rfl ?_
      refine xG_goto (tgt := 31) d_RQ_readChoice_27 (by decide) ?_
      exact xG_ireturn d_RQ_readChoice_31 rfl rfl ⟨rfl, hL1, _, rfl, h⟩
theorem e_RQ_readChoice {l : Launch} {V : xV} {Q : Int32 → xIt → xJt → xPt → Prop} {I : xIt} {J : xJt} {P : xPt} {v1 : Int32} (h : G_RQ_readChoice l V Q 0 [(0, xq (some 1)), (1, xi v1)] [] I J P) : xMet l V y_RQ_readChoice 3 0 0 [xq (some 1), xi v1] xS0 I J P (xPi Q) := xMet_of (by decide) (Nat.le_of_ble_eq_true rfl) h

abbrev G_RQ_readFlag (l : Launch) (V : xV) (Q : Int32 → xIt → xJt → xPt → Prop) (pc : Nat) (lv : List (Nat × xX)) (st : List xX) (I : xIt) (J : xJt) (P : xPt) : Prop := xG l V y_RQ_readFlag (xR 3 0 0) (xFn V y_RQ_readFlag (xR 3 0 0) (xPi Q)) pc lv st xS0 I J P (0, 0)
set_option maxRecDepth 20000 in
theorem b_RQ_readFlag_0 {l : Launch} {V : xV} {Q : Int32 → xIt → xJt → xPt → Prop} {I : xIt} {J : xJt} {P : xPt} (hL : xL P) {v1 : Int32} (h : (∃ Q1 : Int32 → xIt → xJt → xPt → Prop, xMet l V y_RQ_readByte 2 0 0 [xq (some 1), xi 1, xi v1] xS0 I J P (xPi Q1) ∧ ∀ (z1 : Int32) (I1 : xIt) (J1 : xJt) (P1 : xPt), Q1 z1 I1 J1 P1 → ((z1 ≤ 0 → ((z1 < 0 → Q 0 (xu I1 1 6 0) J1 P1) ∧ (¬ z1 < 0 → Q 1 (xu I1 1 6 0) J1 P1))) ∧ (¬ z1 ≤ 0 → ((z1 < 0 → Q 0 (xu I1 1 6 1) J1 P1) ∧ (¬ z1 < 0 → Q 1 (xu I1 1 6 1) J1 P1)))))) : G_RQ_readFlag l V Q 0 [(0, xq (some 1)), (1, xi v1)] [] I J P := by
  refine xG_aload_n d_RQ_readFlag_0 rfl rfl rfl ?_
  refine xG_iconst (v := 1) d_RQ_readFlag_1 rfl ?_
  refine xG_iload_n d_RQ_readFlag_2 rfl rfl ?_
  obtain ⟨Q1, hM, h⟩ := h
  refine xG_callv (as := [xi 1, xi v1]) (rest := []) d_RQ_readFlag_3 yv_RQ_readByte w2_91 rfl rfl rfl s0_1 (by decide) rfl hM ⟨by decide, by decide⟩ (Nat.le_of_ble_eq_true rfl) ⟨Nat.zero_le _, Nat.zero_le _⟩ (fun r S1 I1 J1 P1 hp => ?_)
  obtain ⟨rfl, hL1, z1, rfl, hq⟩ := hp
  have h := h z1 I1 J1 P1 hq
  refine xG_istore_n (lv' := [(2, xi z1), (0, xq (some 1)), (1, xi v1)]) d_RQ_readFlag_6 rfl (Nat.le_of_ble_eq_true rfl) rfl ?_
  refine xG_aload_n d_RQ_readFlag_7 rfl rfl rfl ?_
  refine xG_iload_n d_RQ_readFlag_8 rfl rfl ?_
  refine xG_if_le (tgt := 16) d_RQ_readFlag_9 (by decide) (fun c => ?_) (fun c => ?_)
  · have h := h.1 c
    refine xG_iconst (v := 0) d_RQ_readFlag_16 rfl ?_
    refine xG_puti d_RQ_readFlag_17 xf_RQ_31 (Or.inl rfl) rfl s0_1 rfl rfl ?_
    refine xG_iload_n d_RQ_readFlag_20 rfl rfl ?_
    refine xG_if_lt (tgt := 28) d_RQ_readFlag_21 (by decide) (fun c => ?_) (fun c => ?_)
    · have h := h.1 c
      refine xG_iconst (v := 0) d_RQ_readFlag_28 rfl ?_
      exact xG_ireturn d_RQ_readFlag_29 rfl rfl ⟨rfl, hL1, _, rfl, h⟩
    · have h := h.2 c
      refine xG_iconst (v := 1) d_RQ_readFlag_24 rfl ?_
      refine xG_goto (tgt := 29) d_RQ_readFlag_25 (by decide) ?_
      exact xG_ireturn d_RQ_readFlag_29 rfl rfl ⟨rfl, hL1, _, rfl, h⟩
  · have h := h.2 c
    refine xG_iconst (v := 1) d_RQ_readFlag_12 rfl ?_
    refine xG_goto (tgt := 17) d_RQ_readFlag_13 (by decide) ?_
    refine xG_puti d_RQ_readFlag_17 xf_RQ_31 (Or.inl rfl) rfl s0_1 rfl rfl ?_
    refine xG_iload_n d_RQ_readFlag_20 rfl rfl ?_
    refine xG_if_lt (tgt := 28) d_RQ_readFlag_21 (by decide) (fun c => ?_) (fun c => ?_)
    · have h := h.1 c
      refine xG_iconst (v := 0) d_RQ_readFlag_28 rfl ?_
      exact xG_ireturn d_RQ_readFlag_29 rfl rfl ⟨rfl, hL1, _, rfl, h⟩
    · have h := h.2 c
      refine xG_iconst (v := 1) d_RQ_readFlag_24 rfl ?_
      refine xG_goto (tgt := 29) d_RQ_readFlag_25 (by decide) ?_
      exact xG_ireturn d_RQ_readFlag_29 rfl rfl ⟨rfl, hL1, _, rfl, h⟩
theorem e_RQ_readFlag {l : Launch} {V : xV} {Q : Int32 → xIt → xJt → xPt → Prop} {I : xIt} {J : xJt} {P : xPt} {v1 : Int32} (h : G_RQ_readFlag l V Q 0 [(0, xq (some 1)), (1, xi v1)] [] I J P) : xMet l V y_RQ_readFlag 3 0 0 [xq (some 1), xi v1] xS0 I J P (xPi Q) := xMet_of (by decide) (Nat.le_of_ble_eq_true rfl) h

abbrev G_RQ_readText (l : Launch) (V : xV) (Q : Int32 → xIt → xJt → xPt → Prop) (pc : Nat) (lv : List (Nat × xX)) (st : List xX) (I : xIt) (J : xJt) (P : xPt) : Prop := xG l V y_RQ_readText (xR 2 0 0) (xFn V y_RQ_readText (xR 2 0 0) (xPi Q)) pc lv st xS0 I J P (0, 0)
set_option maxRecDepth 20000 in
theorem b_RQ_readText_0 {l : Launch} {V : xV} {Q : Int32 → xIt → xJt → xPt → Prop} {I : xIt} {J : xJt} {P : xPt} (hL : xL P) {v1 : Int32} {v2 : Int32} (h : (∃ Q1 : Int32 → xIt → xJt → xPt → Prop, xMet l V y_RQ_enter 1 0 0 [xq (some 1), xi v1, xi v2] xS0 I J P (xPi Q1) ∧ ∀ (z1 : Int32) (I1 : xIt) (J1 : xJt) (P1 : xPt), Q1 z1 I1 J1 P1 → ((z1 < 0 → Q 0 I1 J1 P1) ∧ (¬ z1 < 0 → (∃ Q2 : Int32 → xIt → xJt → xPt → Prop, xMet l V y_RQ_takeText 1 0 0 [xq (some 1), xi z1] xS0 I1 J1 P1 (xPi Q2) ∧ ∀ (z2 : Int32) (I2 : xIt) (J2 : xJt) (P2 : xPt), Q2 z2 I2 J2 P2 → ((z2 = 0 → Q 0 I2 J2 P2) ∧ (¬ z2 = 0 → Q 1 I2 J2 P2))))))) : G_RQ_readText l V Q 0 [(0, xq (some 1)), (1, xi v1), (2, xi v2)] [] I J P := by
  refine xG_aload_n d_RQ_readText_0 rfl rfl rfl ?_
  refine xG_iload_n d_RQ_readText_1 rfl rfl ?_
  refine xG_iload_n d_RQ_readText_2 rfl rfl ?_
  obtain ⟨Q1, hM, h⟩ := h
  refine xG_callv (as := [xi v1, xi v2]) (rest := []) d_RQ_readText_3 yv_RQ_enter w2_54 rfl rfl rfl s0_1 (by decide) rfl hM ⟨by decide, by decide⟩ (Nat.le_of_ble_eq_true rfl) ⟨Nat.zero_le _, Nat.zero_le _⟩ (fun r S1 I1 J1 P1 hp => ?_)
  obtain ⟨rfl, hL1, z1, rfl, hq⟩ := hp
  have h := h z1 I1 J1 P1 hq
  refine xG_istore_n (lv' := [(3, xi z1), (0, xq (some 1)), (1, xi v1), (2, xi v2)]) d_RQ_readText_6 rfl (Nat.le_of_ble_eq_true rfl) rfl ?_
  refine xG_iload_n d_RQ_readText_7 rfl rfl ?_
  refine xG_if_lt (tgt := 23) d_RQ_readText_8 (by decide) (fun c => ?_) (fun c => ?_)
  · have h := h.1 c
    refine xG_iconst (v := 0) d_RQ_readText_23 rfl ?_
    exact xG_ireturn d_RQ_readText_24 rfl rfl ⟨rfl, hL1, _, rfl, h⟩
  · have h := h.2 c
    refine xG_aload_n d_RQ_readText_11 rfl rfl rfl ?_
    refine xG_iload_n d_RQ_readText_12 rfl rfl ?_
    obtain ⟨Q2, hM, h⟩ := h
    refine xG_callv (as := [xi z1]) (rest := []) d_RQ_readText_13 yv_RQ_takeText w2_75 rfl rfl rfl s0_1 (by decide) rfl hM ⟨by decide, by decide⟩ (Nat.le_of_ble_eq_true rfl) ⟨Nat.zero_le _, Nat.zero_le _⟩ (fun r S2 I2 J2 P2 hp => ?_)
    obtain ⟨rfl, hL2, z2, rfl, hq⟩ := hp
    have h := h z2 I2 J2 P2 hq
    refine xG_if_eq (tgt := 23) d_RQ_readText_16 (by decide) (fun c => ?_) (fun c => ?_)
    · have h := h.1 c
      refine xG_iconst (v := 0) d_RQ_readText_23 rfl ?_
      exact xG_ireturn d_RQ_readText_24 rfl rfl ⟨rfl, hL2, _, rfl, h⟩
    · have h := h.2 c
      refine xG_iconst (v := 1) d_RQ_readText_19 rfl ?_
      refine xG_goto (tgt := 24) d_RQ_readText_20 (by decide) ?_
      exact xG_ireturn d_RQ_readText_24 rfl rfl ⟨rfl, hL2, _, rfl, h⟩
theorem e_RQ_readText {l : Launch} {V : xV} {Q : Int32 → xIt → xJt → xPt → Prop} {I : xIt} {J : xJt} {P : xPt} {v1 : Int32} {v2 : Int32} (h : G_RQ_readText l V Q 0 [(0, xq (some 1)), (1, xi v1), (2, xi v2)] [] I J P) : xMet l V y_RQ_readText 2 0 0 [xq (some 1), xi v1, xi v2] xS0 I J P (xPi Q) := xMet_of (by decide) (Nat.le_of_ble_eq_true rfl) h

abbrev G_RQ_takeText (l : Launch) (V : xV) (Q : Int32 → xIt → xJt → xPt → Prop) (pc : Nat) (lv : List (Nat × xX)) (st : List xX) (I : xIt) (J : xJt) (P : xPt) : Prop := xG l V y_RQ_takeText (xR 1 0 0) (xFn V y_RQ_takeText (xR 1 0 0) (xPi Q)) pc lv st xS0 I J P (0, 0)
set_option maxRecDepth 20000 in
theorem b_RQ_takeText_0 {l : Launch} {V : xV} {Q : Int32 → xIt → xJt → xPt → Prop} {I : xIt} {J : xJt} {P : xPt} (hL : xL P) {v1 : Int32} (h : ((30 < (v1 - (I 1 1)) → Q 0 I J P) ∧ (¬ 30 < (v1 - (I 1 1)) → ((¬ (I 1 9) = 75 → (vp_in (I 1 9) 75 ∧ (vp_in (I 1 9) 75 ∧ Q 1 (xu (xu (xu (xu I 3 ((I 1 9).toNatClampNeg) (I 1 1)) 4 ((I 1 9).toNatClampNeg) v1) 1 9 ((I 1 9) + 1)) 1 1 v1) J P))) ∧ ((I 1 9) = 75 → Q 0 I J P))))) : G_RQ_takeText l V Q 0 [(0, xq (some 1)), (1, xi v1)] [] I J P := by
  refine xG_iload_n d_RQ_takeText_0 rfl rfl ?_
  refine xG_aload_n d_RQ_takeText_1 rfl rfl rfl ?_
  refine xG_geti d_RQ_takeText_2 xf_RQ_15 rfl s0_1 ?_
  refine xG_isub d_RQ_takeText_5 ?_
  refine xG_bipush (v := 30) d_RQ_takeText_6 rfl ?_
  refine xG_icmp_gt (tgt := 20) d_RQ_takeText_8 (by decide) (fun c => ?_) (fun c => ?_)
  · have h := h.1 c
    refine xG_iconst (v := 0) d_RQ_takeText_20 rfl ?_
    exact xG_ireturn d_RQ_takeText_21 rfl rfl ⟨rfl, hL, _, rfl, h⟩
  · have h := h.2 c
    refine xG_aload_n d_RQ_takeText_11 rfl rfl rfl ?_
    refine xG_geti d_RQ_takeText_12 xf_RQ_41 rfl s0_1 ?_
    refine xG_bipush (v := 75) d_RQ_takeText_15 rfl ?_
    refine xG_icmp_ne (tgt := 22) d_RQ_takeText_17 (by decide) (fun c => ?_) (fun c => ?_)
    · have h := h.1 c
      refine xG_aload_n d_RQ_takeText_22 rfl rfl rfl ?_
      refine xG_getq d_RQ_takeText_23 xf_RQ_35 rfl s0_1 ?_
      refine xG_aload_n d_RQ_takeText_26 rfl rfl rfl ?_
      refine xG_geti d_RQ_takeText_27 xf_RQ_41 rfl s0_1 ?_
      refine xG_aload_n d_RQ_takeText_30 rfl rfl rfl ?_
      refine xG_geti d_RQ_takeText_31 xf_RQ_15 rfl s0_1 ?_
      refine xG_iast d_RQ_takeText_34 (lp_1_7 hL) s0_3 h.1 ?_
      have h := h.2
      refine xG_aload_n d_RQ_takeText_35 rfl rfl rfl ?_
      refine xG_getq d_RQ_takeText_36 xf_RQ_38 rfl s0_1 ?_
      refine xG_aload_n d_RQ_takeText_39 rfl rfl rfl ?_
      refine xG_geti d_RQ_takeText_40 xf_RQ_41 rfl s0_1 ?_
      refine xG_topi (x' := I 1 9) (by first | rfl | exact xu_at | simp [xu]) ?_
      refine xG_iload_n d_RQ_takeText_43 rfl rfl ?_
      refine xG_iast d_RQ_takeText_44 (lp_1_8 hL) s0_4 h.1 ?_
      have h := h.2
      refine xG_aload_n d_RQ_takeText_45 rfl rfl rfl ?_
      refine xG_dup d_RQ_takeText_46 rfl ?_
      refine xG_geti d_RQ_takeText_47 xf_RQ_41 rfl s0_1 ?_
      refine xG_topi (x' := I 1 9) (by first | rfl | exact xu_at | simp [xu]) ?_
      refine xG_iconst (v := 1) d_RQ_takeText_50 rfl ?_
      refine xG_iadd d_RQ_takeText_51 ?_
      refine xG_puti d_RQ_takeText_52 xf_RQ_41 (Or.inl rfl) rfl s0_1 rfl rfl ?_
      refine xG_aload_n d_RQ_takeText_55 rfl rfl rfl ?_
      refine xG_iload_n d_RQ_takeText_56 rfl rfl ?_
      refine xG_puti d_RQ_takeText_57 xf_RQ_15 (Or.inl rfl) rfl s0_1 rfl rfl ?_
      refine xG_iconst (v := 1) d_RQ_takeText_60 rfl ?_
      exact xG_ireturn d_RQ_takeText_61 rfl rfl ⟨rfl, hL, _, rfl, h⟩
    · have h := h.2 c
      refine xG_iconst (v := 0) d_RQ_takeText_20 rfl ?_
      exact xG_ireturn d_RQ_takeText_21 rfl rfl ⟨rfl, hL, _, rfl, h⟩
theorem e_RQ_takeText {l : Launch} {V : xV} {Q : Int32 → xIt → xJt → xPt → Prop} {I : xIt} {J : xJt} {P : xPt} {v1 : Int32} (h : G_RQ_takeText l V Q 0 [(0, xq (some 1)), (1, xi v1)] [] I J P) : xMet l V y_RQ_takeText 1 0 0 [xq (some 1), xi v1] xS0 I J P (xPi Q) := xMet_of (by decide) (Nat.le_of_ble_eq_true rfl) h

abbrev G_RQ_readValues (l : Launch) (V : xV) (Q : Int32 → xIt → xJt → xPt → Prop) (pc : Nat) (lv : List (Nat × xX)) (st : List xX) (I : xIt) (J : xJt) (P : xPt) : Prop := xG l V y_RQ_readValues (xR 3 0 0) (xFn V y_RQ_readValues (xR 3 0 0) (xPi Q)) pc lv st xS0 I J P (0, 0)
set_option maxRecDepth 20000 in
theorem b_RQ_readValues_0 {l : Launch} {V : xV} {Q : Int32 → xIt → xJt → xPt → Prop} {I : xIt} {J : xJt} {P : xPt} (hL : xL P) {v1 : Int32} (h : (∃ Q1 : Int32 → xIt → xJt → xPt → Prop, xMet l V y_RQ_enter 1 0 0 [xq (some 1), xi 49, xi v1] xS0 I J P (xPi Q1) ∧ ∀ (z1 : Int32) (I1 : xIt) (J1 : xJt) (P1 : xPt), Q1 z1 I1 J1 P1 → ((z1 < 0 → Q 0 I1 J1 P1) ∧ (¬ z1 < 0 → ((¬ (I1 1 11) = 18 → G_RQ_readValues l V Q 25 [(0, xq (some 1)), (1, xi v1), (2, xi z1), (3, xi 0)] [] I1 J1 P1) ∧ ((I1 1 11) = 18 → Q 0 I1 J1 P1)))))) : G_RQ_readValues l V Q 0 [(0, xq (some 1)), (1, xi v1)] [] I J P := by
  refine xG_aload_n d_RQ_readValues_0 rfl rfl rfl ?_
  refine xG_bipush (v := 49) d_RQ_readValues_1 rfl ?_
  refine xG_iload_n d_RQ_readValues_3 rfl rfl ?_
  obtain ⟨Q1, hM, h⟩ := h
  refine xG_callv (as := [xi 49, xi v1]) (rest := []) d_RQ_readValues_4 yv_RQ_enter w2_54 rfl rfl rfl s0_1 (by decide) rfl hM ⟨by decide, by decide⟩ (Nat.le_of_ble_eq_true rfl) ⟨Nat.zero_le _, Nat.zero_le _⟩ (fun r S1 I1 J1 P1 hp => ?_)
  obtain ⟨rfl, hL1, z1, rfl, hq⟩ := hp
  have h := h z1 I1 J1 P1 hq
  refine xG_istore_n (lv' := [(2, xi z1), (0, xq (some 1)), (1, xi v1)]) d_RQ_readValues_7 rfl (Nat.le_of_ble_eq_true rfl) rfl ?_
  refine xG_iload_n d_RQ_readValues_8 rfl rfl ?_
  refine xG_if_lt (tgt := 21) d_RQ_readValues_9 (by decide) (fun c => ?_) (fun c => ?_)
  · have h := h.1 c
    refine xG_iconst (v := 0) d_RQ_readValues_21 rfl ?_
    exact xG_ireturn d_RQ_readValues_22 rfl rfl ⟨rfl, hL1, _, rfl, h⟩
  · have h := h.2 c
    refine xG_aload_n d_RQ_readValues_12 rfl rfl rfl ?_
    refine xG_geti d_RQ_readValues_13 xf_RQ_47 rfl s0_1 ?_
    refine xG_bipush (v := 18) d_RQ_readValues_16 rfl ?_
    refine xG_icmp_ne (tgt := 23) d_RQ_readValues_18 (by decide) (fun c => ?_) (fun c => ?_)
    · have h := h.1 c
      refine xG_iconst (v := 0) d_RQ_readValues_23 rfl ?_
      refine xG_istore_n (lv' := [(3, xi 0), (2, xi z1), (0, xq (some 1)), (1, xi v1)]) d_RQ_readValues_24 rfl (Nat.le_of_ble_eq_true rfl) rfl ?_
      refine xG_pick [2, 3, 1, 0] rfl ?_
      exact h
    · have h := h.2 c
      refine xG_iconst (v := 0) d_RQ_readValues_21 rfl ?_
      exact xG_ireturn d_RQ_readValues_22 rfl rfl ⟨rfl, hL1, _, rfl, h⟩
set_option maxRecDepth 20000 in
theorem b_RQ_readValues_25 {l : Launch} {V : xV} {Q : Int32 → xIt → xJt → xPt → Prop} {I : xIt} {J : xJt} {P : xPt} (hL : xL P) {v1 : Int32} {v2 : Int32} {v3 : Int32} (h : ((8 ≤ v3 → G_RQ_readValues l V Q 56 [(0, xq (some 1)), (1, xi v1), (2, xi v2), (3, xi v3)] [] I J P) ∧ (¬ 8 ≤ v3 → ((v2 ≤ (I 1 1) → G_RQ_readValues l V Q 56 [(0, xq (some 1)), (1, xi v1), (2, xi v2), (3, xi v3)] [] I J P) ∧ (¬ v2 ≤ (I 1 1) → (∃ Q1 : Int32 → xIt → xJt → xPt → Prop, xMet l V y_RQ_readText 2 0 0 [xq (some 1), xi 4, xi v2] xS0 I J P (xPi Q1) ∧ ∀ (z1 : Int32) (I1 : xIt) (J1 : xJt) (P1 : xPt), Q1 z1 I1 J1 P1 → ((¬ z1 = 0 → G_RQ_readValues l V Q 25 [(0, xq (some 1)), (1, xi v1), (2, xi v2), (3, xi (v3 + 1))] [] I1 J1 P1) ∧ (z1 = 0 → Q 0 I1 J1 P1)))))))) : G_RQ_readValues l V Q 25 [(0, xq (some 1)), (1, xi v1), (2, xi v2), (3, xi v3)] [] I J P := by
  refine xG_iload_n d_RQ_readValues_25 rfl rfl ?_
  refine xG_bipush (v := 8) d_RQ_readValues_26 rfl ?_
  refine xG_icmp_ge (tgt := 56) d_RQ_readValues_28 (by decide) (fun c => ?_) (fun c => ?_)
  · have h := h.1 c
    exact h
  · have h := h.2 c
    refine xG_aload_n d_RQ_readValues_31 rfl rfl rfl ?_
    refine xG_geti d_RQ_readValues_32 xf_RQ_15 rfl s0_1 ?_
    refine xG_iload_n d_RQ_readValues_35 rfl rfl ?_
    refine xG_icmp_ge (tgt := 56) d_RQ_readValues_36 (by decide) (fun c => ?_) (fun c => ?_)
    · have h := h.1 c
      exact h
    · have h := h.2 c
      refine xG_aload_n d_RQ_readValues_39 rfl rfl rfl ?_
      refine xG_iconst (v := 4) d_RQ_readValues_40 rfl ?_
      refine xG_iload_n d_RQ_readValues_41 rfl rfl ?_
      obtain ⟨Q1, hM, h⟩ := h
      refine xG_callv (as := [xi 4, xi v2]) (rest := []) d_RQ_readValues_42 yv_RQ_readText w2_71 rfl rfl rfl s0_1 (by decide) rfl hM ⟨by decide, by decide⟩ (Nat.le_of_ble_eq_true rfl) ⟨Nat.zero_le _, Nat.zero_le _⟩ (fun r S1 I1 J1 P1 hp => ?_)
      obtain ⟨rfl, hL1, z1, rfl, hq⟩ := hp
      have h := h z1 I1 J1 P1 hq
      refine xG_if_ne (tgt := 50) d_RQ_readValues_45 (by decide) (fun c => ?_) (fun c => ?_)
      · have h := h.1 c
        refine xG_iinc (v := v3 + 1) (lv' := [(3, xi (v3 + 1)), (0, xq (some 1)), (1, xi v1), (2, xi v2)]) d_RQ_readValues_50 rfl rfl (Nat.le_of_ble_eq_true rfl) rfl ?_
        refine xG_goto (tgt := 25) d_RQ_readValues_53 (by decide) ?_
        refine xG_pick [1, 2, 3, 0] rfl ?_
        exact h
      · have h := h.2 c
        refine xG_iconst (v := 0) d_RQ_readValues_48 rfl ?_
        exact xG_ireturn d_RQ_readValues_49 rfl rfl ⟨rfl, hL1, _, rfl, h⟩
set_option maxRecDepth 20000 in
theorem b_RQ_readValues_56 {l : Launch} {V : xV} {Q : Int32 → xIt → xJt → xPt → Prop} {I : xIt} {J : xJt} {P : xPt} (hL : xL P) {v1 : Int32} {v2 : Int32} {v3 : Int32} (h : (vp_in (I 1 11) 18 ∧ ((¬ (I 1 1) = v2 → Q 0 (xu (xu I 5 ((I 1 11).toNatClampNeg) v3) 1 11 ((I 1 11) + 1)) J P) ∧ ((I 1 1) = v2 → Q 1 (xu (xu I 5 ((I 1 11).toNatClampNeg) v3) 1 11 ((I 1 11) + 1)) J P)))) : G_RQ_readValues l V Q 56 [(0, xq (some 1)), (1, xi v1), (2, xi v2), (3, xi v3)] [] I J P := by
  refine xG_aload_n d_RQ_readValues_56 rfl rfl rfl ?_
  refine xG_getq d_RQ_readValues_57 xf_RQ_44 rfl s0_1 ?_
  refine xG_aload_n d_RQ_readValues_60 rfl rfl rfl ?_
  refine xG_geti d_RQ_readValues_61 xf_RQ_47 rfl s0_1 ?_
  refine xG_iload_n d_RQ_readValues_64 rfl rfl ?_
  refine xG_iast d_RQ_readValues_65 (lp_1_10 hL) s0_5 h.1 ?_
  have h := h.2
  refine xG_aload_n d_RQ_readValues_66 rfl rfl rfl ?_
  refine xG_dup d_RQ_readValues_67 rfl ?_
  refine xG_geti d_RQ_readValues_68 xf_RQ_47 rfl s0_1 ?_
  refine xG_topi (x' := I 1 11) (by first | rfl | exact xu_at | simp [xu]) ?_
  refine xG_iconst (v := 1) d_RQ_readValues_71 rfl ?_
  refine xG_iadd d_RQ_readValues_72 ?_
  refine xG_puti d_RQ_readValues_73 xf_RQ_47 (Or.inl rfl) rfl s0_1 rfl rfl ?_
  refine xG_aload_n d_RQ_readValues_76 rfl rfl rfl ?_
  refine xG_geti d_RQ_readValues_77 xf_RQ_15 rfl s0_1 ?_
  refine xG_topi (x' := I 1 1) (by first | rfl | exact xu_at | simp [xu]) ?_
  refine xG_iload_n d_RQ_readValues_80 rfl rfl ?_
  refine xG_icmp_ne (tgt := 88) d_RQ_readValues_81 (by decide) (fun c => ?_) (fun c => ?_)
  · have h := h.1 c
    refine xG_iconst (v := 0) d_RQ_readValues_88 rfl ?_
    exact xG_ireturn d_RQ_readValues_89 rfl rfl ⟨rfl, hL, _, rfl, h⟩
  · have h := h.2 c
    refine xG_iconst (v := 1) d_RQ_readValues_84 rfl ?_
    refine xG_goto (tgt := 89) d_RQ_readValues_85 (by decide) ?_
    exact xG_ireturn d_RQ_readValues_89 rfl rfl ⟨rfl, hL, _, rfl, h⟩
theorem e_RQ_readValues {l : Launch} {V : xV} {Q : Int32 → xIt → xJt → xPt → Prop} {I : xIt} {J : xJt} {P : xPt} {v1 : Int32} (h : G_RQ_readValues l V Q 0 [(0, xq (some 1)), (1, xi v1)] [] I J P) : xMet l V y_RQ_readValues 3 0 0 [xq (some 1), xi v1] xS0 I J P (xPi Q) := xMet_of (by decide) (Nat.le_of_ble_eq_true rfl) h

abbrev G_RQ_readAttributes (l : Launch) (V : xV) (Q : Int32 → xIt → xJt → xPt → Prop) (pc : Nat) (lv : List (Nat × xX)) (st : List xX) (I : xIt) (J : xJt) (P : xPt) : Prop := xG l V y_RQ_readAttributes (xR 4 0 0) (xFn V y_RQ_readAttributes (xR 4 0 0) (xPi Q)) pc lv st xS0 I J P (0, 0)
set_option maxRecDepth 20000 in
theorem b_RQ_readAttributes_0 {l : Launch} {V : xV} {Q : Int32 → xIt → xJt → xPt → Prop} {I : xIt} {J : xJt} {P : xPt} (hL : xL P) {v1 : Int32} (h : G_RQ_readAttributes l V Q 2 [(0, xq (some 1)), (1, xi v1), (2, xi 0)] [] I J P) : G_RQ_readAttributes l V Q 0 [(0, xq (some 1)), (1, xi v1)] [] I J P := by
  refine xG_iconst (v := 0) d_RQ_readAttributes_0 rfl ?_
  refine xG_istore_n (lv' := [(2, xi 0), (0, xq (some 1)), (1, xi v1)]) d_RQ_readAttributes_1 rfl (Nat.le_of_ble_eq_true rfl) rfl ?_
  refine xG_pick [1, 2, 0] rfl ?_
  exact h
set_option maxRecDepth 20000 in
theorem b_RQ_readAttributes_2 {l : Launch} {V : xV} {Q : Int32 → xIt → xJt → xPt → Prop} {I : xIt} {J : xJt} {P : xPt} (hL : xL P) {v1 : Int32} {v2 : Int32} (h : ((18 ≤ v2 → ((¬ (I 1 1) = v1 → Q 0 I J P) ∧ ((I 1 1) = v1 → Q 1 I J P))) ∧ (¬ 18 ≤ v2 → ((v1 ≤ (I 1 1) → ((¬ (I 1 1) = v1 → Q 0 I J P) ∧ ((I 1 1) = v1 → Q 1 I J P))) ∧ (¬ v1 ≤ (I 1 1) → (∃ Q1 : Int32 → xIt → xJt → xPt → Prop, xMet l V y_RQ_enter 1 0 0 [xq (some 1), xi 48, xi v1] xS0 I J P (xPi Q1) ∧ ∀ (z1 : Int32) (I1 : xIt) (J1 : xJt) (P1 : xPt), Q1 z1 I1 J1 P1 → ((z1 < 0 → Q 0 I1 J1 P1) ∧ (¬ z1 < 0 → (∃ Q2 : Int32 → xIt → xJt → xPt → Prop, xMet l V y_RQ_readText 2 0 0 [xq (some 1), xi 4, xi z1] xS0 I1 J1 P1 (xPi Q2) ∧ ∀ (z2 : Int32) (I2 : xIt) (J2 : xJt) (P2 : xPt), Q2 z2 I2 J2 P2 → ((z2 = 0 → Q 0 I2 J2 P2) ∧ (¬ z2 = 0 → (∃ Q3 : Int32 → xIt → xJt → xPt → Prop, xMet l V y_RQ_readValues 3 0 0 [xq (some 1), xi z1] xS0 I2 J2 P2 (xPi Q3) ∧ ∀ (z3 : Int32) (I3 : xIt) (J3 : xJt) (P3 : xPt), Q3 z3 I3 J3 P3 → ((¬ z3 = 0 → ((¬ (I3 1 1) = z1 → Q 0 I3 J3 P3) ∧ ((I3 1 1) = z1 → (vp_in v2 18 ∧ ((¬ (I3 5 v2.toNatClampNeg) = 0 → G_RQ_readAttributes l V Q 2 [(0, xq (some 1)), (1, xi v1), (2, xi (v2 + 1))] [] I3 J3 P3) ∧ ((I3 5 v2.toNatClampNeg) = 0 → Q 0 I3 J3 P3)))))) ∧ (z3 = 0 → Q 0 I3 J3 P3)))))))))))))) : G_RQ_readAttributes l V Q 2 [(0, xq (some 1)), (1, xi v1), (2, xi v2)] [] I J P := by
  refine xG_iload_n d_RQ_readAttributes_2 rfl rfl ?_
  refine xG_bipush (v := 18) d_RQ_readAttributes_3 rfl ?_
  refine xG_icmp_ge (tgt := 72) d_RQ_readAttributes_5 (by decide) (fun c => ?_) (fun c => ?_)
  · have h := h.1 c
    refine xG_aload_n d_RQ_readAttributes_72 rfl rfl rfl ?_
    refine xG_geti d_RQ_readAttributes_73 xf_RQ_15 rfl s0_1 ?_
    refine xG_iload_n d_RQ_readAttributes_76 rfl rfl ?_
    refine xG_icmp_ne (tgt := 84) d_RQ_readAttributes_77 (by decide) (fun c => ?_) (fun c => ?_)
    · have h := h.1 c
      refine xG_iconst (v := 0) d_RQ_readAttributes_84 rfl ?_
      exact xG_ireturn d_RQ_readAttributes_85 rfl rfl ⟨rfl, hL, _, rfl, h⟩
    · have h := h.2 c
      refine xG_iconst (v := 1) d_RQ_readAttributes_80 rfl ?_
      refine xG_goto (tgt := 85) d_RQ_readAttributes_81 (by decide) ?_
      exact xG_ireturn d_RQ_readAttributes_85 rfl rfl ⟨rfl, hL, _, rfl, h⟩
  · have h := h.2 c
    refine xG_aload_n d_RQ_readAttributes_8 rfl rfl rfl ?_
    refine xG_geti d_RQ_readAttributes_9 xf_RQ_15 rfl s0_1 ?_
    refine xG_iload_n d_RQ_readAttributes_12 rfl rfl ?_
    refine xG_icmp_ge (tgt := 72) d_RQ_readAttributes_13 (by decide) (fun c => ?_) (fun c => ?_)
    · have h := h.1 c
      refine xG_aload_n d_RQ_readAttributes_72 rfl rfl rfl ?_
      refine xG_geti d_RQ_readAttributes_73 xf_RQ_15 rfl s0_1 ?_
      refine xG_iload_n d_RQ_readAttributes_76 rfl rfl ?_
      refine xG_icmp_ne (tgt := 84) d_RQ_readAttributes_77 (by decide) (fun c => ?_) (fun c => ?_)
      · have h := h.1 c
        refine xG_iconst (v := 0) d_RQ_readAttributes_84 rfl ?_
        exact xG_ireturn d_RQ_readAttributes_85 rfl rfl ⟨rfl, hL, _, rfl, h⟩
      · have h := h.2 c
        refine xG_iconst (v := 1) d_RQ_readAttributes_80 rfl ?_
        refine xG_goto (tgt := 85) d_RQ_readAttributes_81 (by decide) ?_
        exact xG_ireturn d_RQ_readAttributes_85 rfl rfl ⟨rfl, hL, _, rfl, h⟩
    · have h := h.2 c
      refine xG_aload_n d_RQ_readAttributes_16 rfl rfl rfl ?_
      refine xG_bipush (v := 48) d_RQ_readAttributes_17 rfl ?_
      refine xG_iload_n d_RQ_readAttributes_19 rfl rfl ?_
      obtain ⟨Q1, hM, h⟩ := h
      refine xG_callv (as := [xi 48, xi v1]) (rest := []) d_RQ_readAttributes_20 yv_RQ_enter w2_54 rfl rfl rfl s0_1 (by decide) rfl hM ⟨by decide, by decide⟩ (Nat.le_of_ble_eq_true rfl) ⟨Nat.zero_le _, Nat.zero_le _⟩ (fun r S1 I1 J1 P1 hp => ?_)
      obtain ⟨rfl, hL1, z1, rfl, hq⟩ := hp
      have h := h z1 I1 J1 P1 hq
      refine xG_istore_n (lv' := [(3, xi z1), (0, xq (some 1)), (1, xi v1), (2, xi v2)]) d_RQ_readAttributes_23 rfl (Nat.le_of_ble_eq_true rfl) rfl ?_
      refine xG_iload_n d_RQ_readAttributes_24 rfl rfl ?_
      refine xG_if_lt (tgt := 45) d_RQ_readAttributes_25 (by decide) (fun c => ?_) (fun c => ?_)
      · have h := h.1 c
        refine xG_iconst (v := 0) d_RQ_readAttributes_45 rfl ?_
        exact xG_ireturn d_RQ_readAttributes_46 rfl rfl ⟨rfl, hL1, _, rfl, h⟩
      · have h := h.2 c
        refine xG_aload_n d_RQ_readAttributes_28 rfl rfl rfl ?_
        refine xG_iconst (v := 4) d_RQ_readAttributes_29 rfl ?_
        refine xG_iload_n d_RQ_readAttributes_30 rfl rfl ?_
        obtain ⟨Q2, hM, h⟩ := h
        refine xG_callv (as := [xi 4, xi z1]) (rest := []) d_RQ_readAttributes_31 yv_RQ_readText w2_71 rfl rfl rfl s0_1 (by decide) rfl hM ⟨by decide, by decide⟩ (Nat.le_of_ble_eq_true rfl) ⟨Nat.zero_le _, Nat.zero_le _⟩ (fun r S2 I2 J2 P2 hp => ?_)
        obtain ⟨rfl, hL2, z2, rfl, hq⟩ := hp
        have h := h z2 I2 J2 P2 hq
        refine xG_if_eq (tgt := 45) d_RQ_readAttributes_34 (by decide) (fun c => ?_) (fun c => ?_)
        · have h := h.1 c
          refine xG_iconst (v := 0) d_RQ_readAttributes_45 rfl ?_
          exact xG_ireturn d_RQ_readAttributes_46 rfl rfl ⟨rfl, hL2, _, rfl, h⟩
        · have h := h.2 c
          refine xG_aload_n d_RQ_readAttributes_37 rfl rfl rfl ?_
          refine xG_iload_n d_RQ_readAttributes_38 rfl rfl ?_
          obtain ⟨Q3, hM, h⟩ := h
          refine xG_callv (as := [xi z1]) (rest := []) d_RQ_readAttributes_39 yv_RQ_readValues w2_83 rfl rfl rfl s0_1 (by decide) rfl hM ⟨by decide, by decide⟩ (Nat.le_of_ble_eq_true rfl) ⟨Nat.zero_le _, Nat.zero_le _⟩ (fun r S3 I3 J3 P3 hp => ?_)
          obtain ⟨rfl, hL3, z3, rfl, hq⟩ := hp
          have h := h z3 I3 J3 P3 hq
          refine xG_if_ne (tgt := 47) d_RQ_readAttributes_42 (by decide) (fun c => ?_) (fun c => ?_)
          · have h := h.1 c
            refine xG_aload_n d_RQ_readAttributes_47 rfl rfl rfl ?_
            refine xG_geti d_RQ_readAttributes_48 xf_RQ_15 rfl s0_1 ?_
            refine xG_iload_n d_RQ_readAttributes_51 rfl rfl ?_
            refine xG_icmp_ne (tgt := 64) d_RQ_readAttributes_52 (by decide) (fun c => ?_) (fun c => ?_)
            · have h := h.1 c
              refine xG_iconst (v := 0) d_RQ_readAttributes_64 rfl ?_
              exact xG_ireturn d_RQ_readAttributes_65 rfl rfl ⟨rfl, hL3, _, rfl, h⟩
            · have h := h.2 c
              refine xG_aload_n d_RQ_readAttributes_55 rfl rfl rfl ?_
              refine xG_getq d_RQ_readAttributes_56 xf_RQ_44 rfl s0_1 ?_
              refine xG_iload_n d_RQ_readAttributes_59 rfl rfl ?_
              refine xG_iald d_RQ_readAttributes_60 (lp_1_10 hL3) s0_5 h.1 ?_
              have h := h.2
              refine xG_if_ne (tgt := 66) d_RQ_readAttributes_61 (by decide) (fun c => ?_) (fun c => ?_)
              · have h := h.1 c
                refine xG_iinc (v := v2 + 1) (lv' := [(2, xi (v2 + 1)), (3, xi z1), (0, xq (some 1)), (1, xi v1)]) d_RQ_readAttributes_66 rfl rfl (Nat.le_of_ble_eq_true rfl) rfl ?_
                refine xG_goto (tgt := 2) d_RQ_readAttributes_69 (by decide) ?_
                refine xG_pick [2, 3, 0] rfl ?_
                exact h
              · have h := h.2 c
                refine xG_iconst (v := 0) d_RQ_readAttributes_64 rfl ?_
                exact xG_ireturn d_RQ_readAttributes_65 rfl rfl ⟨rfl, hL3, _, rfl, h⟩
          · have h := h.2 c
            refine xG_iconst (v := 0) d_RQ_readAttributes_45 rfl ?_
            exact xG_ireturn d_RQ_readAttributes_46 rfl rfl ⟨rfl, hL3, _, rfl, h⟩
theorem e_RQ_readAttributes {l : Launch} {V : xV} {Q : Int32 → xIt → xJt → xPt → Prop} {I : xIt} {J : xJt} {P : xPt} {v1 : Int32} (h : G_RQ_readAttributes l V Q 0 [(0, xq (some 1)), (1, xi v1)] [] I J P) : xMet l V y_RQ_readAttributes 4 0 0 [xq (some 1), xi v1] xS0 I J P (xPi Q) := xMet_of (by decide) (Nat.le_of_ble_eq_true rfl) h

abbrev G_RQ_readFilter (n : Nat) (l : Launch) (V : xV) (Q : Int32 → xIt → xJt → xPt → Prop) (pc : Nat) (lv : List (Nat × xX)) (st : List xX) (I : xIt) (J : xJt) (P : xPt) : Prop := xG l V y_RQ_readFilter (xR (n + 4) 0 0) (xFn V y_RQ_readFilter (xR (n + 4) 0 0) (xPi Q)) pc lv st xS0 I J P (0, 0)
set_option maxRecDepth 20000 in
theorem b_RQ_readFilter_0 {n : Nat} {l : Launch} {V : xV} {Q : Int32 → xIt → xJt → xPt → Prop} {I : xIt} {J : xJt} {P : xPt} (hL : xL P) {v1 : Int32} {v2 : Int32} {v3 : Int32} (h : ((6 < v3 → Q 0 I J P) ∧ (¬ 6 < v3 → (((I 1 1) < v1 → (vp_in (I 1 1) 153 ∧ (∃ Q1 : Int32 → xIt → xJt → xPt → Prop, xMet l V y_RQ_enter 1 0 0 [xq (some 1), xi (I 2 ((I 1 1).toNatClampNeg)), xi v1] xS0 I J P (xPi Q1) ∧ ∀ (z1 : Int32) (I1 : xIt) (J1 : xJt) (P1 : xPt), Q1 z1 I1 J1 P1 → (∃ Q2 : Int32 → xIt → xJt → xPt → Prop, xMet l V y_FL_add 1 0 0 [xq (some 6), xi (I 2 ((I 1 1).toNatClampNeg)), xi v2, xi (I1 1 9)] xS0 I1 J1 P1 (xPi Q2) ∧ ∀ (z2 : Int32) (I2 : xIt) (J2 : xJt) (P2 : xPt), Q2 z2 I2 J2 P2 → ((z1 < 0 → Q 0 I2 J2 P2) ∧ (¬ z1 < 0 → ((0 ≤ z2 → ((I 2 ((I 1 1).toNatClampNeg) = 135 → (∃ Q3 : Int32 → xIt → xJt → xPt → Prop, xMet l V y_RQ_takeText 1 0 0 [xq (some 1), xi z1] xS0 I2 J2 P2 (xPi Q3) ∧ ∀ (z3 : Int32) (I3 : xIt) (J3 : xJt) (P3 : xPt), Q3 z3 I3 J3 P3 → ((z3 = 0 ∨ z3 = 1) ∧ Q z3 I3 J3 P3))) ∧ (I 2 ((I 1 1).toNatClampNeg) = 160 → G_RQ_readFilter n l V Q 135 [(0, xq (some 1)), (1, xi v1), (2, xi v2), (3, xi v3), (4, xi (I 2 ((I 1 1).toNatClampNeg))), (5, xi z1), (6, xi z2), (7, xi 0)] [] I2 J2 P2) ∧ (I 2 ((I 1 1).toNatClampNeg) = 161 → G_RQ_readFilter n l V Q 135 [(0, xq (some 1)), (1, xi v1), (2, xi v2), (3, xi v3), (4, xi (I 2 ((I 1 1).toNatClampNeg))), (5, xi z1), (6, xi z2), (7, xi 0)] [] I2 J2 P2) ∧ (I 2 ((I 1 1).toNatClampNeg) = 162 → (∃ Q4 : Int32 → xIt → xJt → xPt → Prop, xMet l V y_RQ_readFilter (n + 3) 0 0 [xq (some 1), xi z1, xi z2, xi (v3 + 1)] xS0 I2 J2 P2 (xPi Q4) ∧ ∀ (z4 : Int32) (I4 : xIt) (J4 : xJt) (P4 : xPt), Q4 z4 I4 J4 P4 → ((z4 = 0 → Q 0 I4 J4 P4) ∧ (¬ z4 = 0 → ((¬ (I4 1 1) = z1 → Q 0 I4 J4 P4) ∧ ((I4 1 1) = z1 → Q 1 I4 J4 P4)))))) ∧ (I 2 ((I 1 1).toNatClampNeg) = 163 → (∃ Q5 : Int32 → xIt → xJt → xPt → Prop, xMet l V y_RQ_readText 2 0 0 [xq (some 1), xi 4, xi z1] xS0 I2 J2 P2 (xPi Q5) ∧ ∀ (z5 : Int32) (I5 : xIt) (J5 : xJt) (P5 : xPt), Q5 z5 I5 J5 P5 → ((z5 = 0 → Q 0 I5 J5 P5) ∧ (¬ z5 = 0 → (∃ Q6 : Int32 → xIt → xJt → xPt → Prop, xMet l V y_RQ_readText 2 0 0 [xq (some 1), xi 4, xi z1] xS0 I5 J5 P5 (xPi Q6) ∧ ∀ (z6 : Int32) (I6 : xIt) (J6 : xJt) (P6 : xPt), Q6 z6 I6 J6 P6 → ((z6 = 0 → Q 0 I6 J6 P6) ∧ (¬ z6 = 0 → ((¬ (I6 1 1) = z1 → Q 0 I6 J6 P6) ∧ ((I6 1 1) = z1 → Q 1 I6 J6 P6))))))))) ∧ (I 2 ((I 1 1).toNatClampNeg) = 165 → (∃ Q7 : Int32 → xIt → xJt → xPt → Prop, xMet l V y_RQ_readText 2 0 0 [xq (some 1), xi 4, xi z1] xS0 I2 J2 P2 (xPi Q7) ∧ ∀ (z7 : Int32) (I7 : xIt) (J7 : xJt) (P7 : xPt), Q7 z7 I7 J7 P7 → ((z7 = 0 → Q 0 I7 J7 P7) ∧ (¬ z7 = 0 → (∃ Q8 : Int32 → xIt → xJt → xPt → Prop, xMet l V y_RQ_readText 2 0 0 [xq (some 1), xi 4, xi z1] xS0 I7 J7 P7 (xPi Q8) ∧ ∀ (z8 : Int32) (I8 : xIt) (J8 : xJt) (P8 : xPt), Q8 z8 I8 J8 P8 → ((z8 = 0 → Q 0 I8 J8 P8) ∧ (¬ z8 = 0 → ((¬ (I8 1 1) = z1 → Q 0 I8 J8 P8) ∧ ((I8 1 1) = z1 → Q 1 I8 J8 P8))))))))) ∧ (I 2 ((I 1 1).toNatClampNeg) = 166 → (∃ Q9 : Int32 → xIt → xJt → xPt → Prop, xMet l V y_RQ_readText 2 0 0 [xq (some 1), xi 4, xi z1] xS0 I2 J2 P2 (xPi Q9) ∧ ∀ (z9 : Int32) (I9 : xIt) (J9 : xJt) (P9 : xPt), Q9 z9 I9 J9 P9 → ((z9 = 0 → Q 0 I9 J9 P9) ∧ (¬ z9 = 0 → (∃ Q10 : Int32 → xIt → xJt → xPt → Prop, xMet l V y_RQ_readText 2 0 0 [xq (some 1), xi 4, xi z1] xS0 I9 J9 P9 (xPi Q10) ∧ ∀ (z10 : Int32) (I10 : xIt) (J10 : xJt) (P10 : xPt), Q10 z10 I10 J10 P10 → ((z10 = 0 → Q 0 I10 J10 P10) ∧ (¬ z10 = 0 → ((¬ (I10 1 1) = z1 → Q 0 I10 J10 P10) ∧ ((I10 1 1) = z1 → Q 1 I10 J10 P10))))))))) ∧ (¬ I 2 ((I 1 1).toNatClampNeg) = 135 → ¬ I 2 ((I 1 1).toNatClampNeg) = 160 → ¬ I 2 ((I 1 1).toNatClampNeg) = 161 → ¬ I 2 ((I 1 1).toNatClampNeg) = 162 → ¬ I 2 ((I 1 1).toNatClampNeg) = 163 → ¬ I 2 ((I 1 1).toNatClampNeg) = 165 → ¬ I 2 ((I 1 1).toNatClampNeg) = 166 → Q 0 I2 J2 P2))) ∧ (¬ 0 ≤ z2 → Q 0 I2 J2 P2)))))))) ∧ (¬ (I 1 1) < v1 → Q 0 I J P))))) : G_RQ_readFilter n l V Q 0 [(0, xq (some 1)), (1, xi v1), (2, xi v2), (3, xi v3)] [] I J P := by
  refine xG_iload_n d_RQ_readFilter_0 rfl rfl ?_
  refine xG_bipush (v := 6) d_RQ_readFilter_1 rfl ?_
  refine xG_icmp_gt (tgt := 14) d_RQ_readFilter_3 (by decide) (fun c => ?_) (fun c => ?_)
  · have h := h.1 c
    refine xG_iconst (v := 0) d_RQ_readFilter_14 rfl ?_
    exact xG_ireturn d_RQ_readFilter_15 rfl rfl ⟨rfl, hL, _, rfl, h⟩
  · have h := h.2 c
    refine xG_aload_n d_RQ_readFilter_6 rfl rfl rfl ?_
    refine xG_geti d_RQ_readFilter_7 xf_RQ_15 rfl s0_1 ?_
    refine xG_iload_n d_RQ_readFilter_10 rfl rfl ?_
    refine xG_icmp_lt (tgt := 16) d_RQ_readFilter_11 (by decide) (fun c => ?_) (fun c => ?_)
    · have h := h.1 c
      refine xG_aload_n d_RQ_readFilter_16 rfl rfl rfl ?_
      refine xG_getq d_RQ_readFilter_17 xf_RQ_9 rfl s0_1 ?_
      refine xG_aload_n d_RQ_readFilter_20 rfl rfl rfl ?_
      refine xG_geti d_RQ_readFilter_21 xf_RQ_15 rfl s0_1 ?_
      refine xG_iald d_RQ_readFilter_24 (lp_1_0 hL) s0_2 h.1 ?_
      have h := h.2
      refine xG_topi (x' := I 2 ((I 1 1).toNatClampNeg)) (by first | rfl | exact xu_at | simp [xu]) ?_
      refine xG_istore (lv' := [(4, xi (I 2 ((I 1 1).toNatClampNeg))), (0, xq (some 1)), (1, xi v1), (2, xi v2), (3, xi v3)]) d_RQ_readFilter_25 (Nat.le_of_ble_eq_true rfl) rfl ?_
      refine xG_aload_n d_RQ_readFilter_27 rfl rfl rfl ?_
      refine xG_iload d_RQ_readFilter_28 rfl ?_
      refine xG_iload_n d_RQ_readFilter_30 rfl rfl ?_
      obtain ⟨Q1, hM, h⟩ := h
      refine xG_callv (as := [xi (I 2 ((I 1 1).toNatClampNeg)), xi v1]) (rest := []) d_RQ_readFilter_31 yv_RQ_enter w2_54 rfl rfl rfl s0_1 (by decide) rfl hM ⟨by simp only [xR]; omega, by simp only [xR]; omega⟩ (Nat.le_of_ble_eq_true rfl) ⟨Nat.zero_le _, Nat.zero_le _⟩ (fun r S1 I1 J1 P1 hp => ?_)
      obtain ⟨rfl, hL1, z1, rfl, hq⟩ := hp
      have h := h z1 I1 J1 P1 hq
      refine xG_istore (lv' := [(5, xi z1), (4, xi (I 2 ((I 1 1).toNatClampNeg))), (0, xq (some 1)), (1, xi v1), (2, xi v2), (3, xi v3)]) d_RQ_readFilter_34 (Nat.le_of_ble_eq_true rfl) rfl ?_
      refine xG_aload_n d_RQ_readFilter_36 rfl rfl rfl ?_
      refine xG_getq d_RQ_readFilter_37 xf_RQ_53 rfl s0_1 ?_
      refine xG_iload d_RQ_readFilter_40 rfl ?_
      refine xG_iload_n d_RQ_readFilter_42 rfl rfl ?_
      refine xG_aload_n d_RQ_readFilter_43 rfl rfl rfl ?_
      refine xG_geti d_RQ_readFilter_44 xf_RQ_41 rfl s0_1 ?_
      obtain ⟨Q2, hM, h⟩ := h
      refine xG_callv (as := [xi (I 2 ((I 1 1).toNatClampNeg)), xi v2, xi (I1 1 9)]) (rest := []) d_RQ_readFilter_47 yv_FL_add w2_107 rfl (lp_1_12 hL1) rfl s0_6 (by decide) rfl hM ⟨by simp only [xR]; omega, by simp only [xR]; omega⟩ (Nat.le_of_ble_eq_true rfl) ⟨Nat.zero_le _, Nat.zero_le _⟩ (fun r S2 I2 J2 P2 hp => ?_)
      obtain ⟨rfl, hL2, z2, rfl, hq⟩ := hp
      have h := h z2 I2 J2 P2 hq
      refine xG_istore (lv' := [(6, xi z2), (5, xi z1), (4, xi (I 2 ((I 1 1).toNatClampNeg))), (0, xq (some 1)), (1, xi v1), (2, xi v2), (3, xi v3)]) d_RQ_readFilter_50 (Nat.le_of_ble_eq_true rfl) rfl ?_
      refine xG_iload d_RQ_readFilter_52 rfl ?_
      refine xG_if_lt (tgt := 62) d_RQ_readFilter_54 (by decide) (fun c => ?_) (fun c => ?_)
      · have h := h.1 c
        refine xG_iconst (v := 0) d_RQ_readFilter_62 rfl ?_
        exact xG_ireturn d_RQ_readFilter_63 rfl rfl ⟨rfl, hL2, _, rfl, h⟩
      · have h := h.2 c
        refine xG_iload d_RQ_readFilter_57 rfl ?_
        refine xG_if_ge (tgt := 64) d_RQ_readFilter_59 (by decide) (fun c => ?_) (fun c => ?_)
        · have h := h.1 c
          refine xG_iload d_RQ_readFilter_64 rfl ?_
          by_cases c0 : I 2 ((I 1 1).toNatClampNeg) = 135
          · have h := h.1 c0
            refine xG_topi (x' := 135) c0 ?_
            refine xG_lookup (off := 186) (tgt := 252) d_RQ_readFilter_66 (by decide) rfl (by decide) ?_
            refine xG_aload_n d_RQ_readFilter_252 rfl rfl rfl ?_
            refine xG_iload d_RQ_readFilter_253 rfl ?_
            obtain ⟨Q3, hM, h⟩ := h
            refine xG_callv (as := [xi z1]) (rest := []) d_RQ_readFilter_255 yv_RQ_takeText w2_75 rfl rfl rfl s0_1 (by decide) rfl hM ⟨by simp only [xR]; omega, by simp only [xR]; omega⟩ (Nat.le_of_ble_eq_true rfl) ⟨Nat.zero_le _, Nat.zero_le _⟩ (fun r S3 I3 J3 P3 hp => ?_)
            obtain ⟨rfl, hL3, z3, rfl, hq⟩ := hp
            have h := h z3 I3 J3 P3 hq
            exact xG_ireturn d_RQ_readFilter_258 rfl (x_nb h.1) ⟨rfl, hL3, _, rfl, h.2⟩
          by_cases c1 : I 2 ((I 1 1).toNatClampNeg) = 160
          · have h := h.2.1 c1
            refine xG_topi (x' := 160) c1 ?_
            refine xG_lookup (off := 66) (tgt := 132) d_RQ_readFilter_66 (by decide) rfl (by decide) ?_
            refine xG_iconst (v := 0) d_RQ_readFilter_132 rfl ?_
            refine xG_istore (lv' := [(7, xi 0), (6, xi z2), (5, xi z1), (4, xi (I 2 ((I 1 1).toNatClampNeg))), (0, xq (some 1)), (1, xi v1), (2, xi v2), (3, xi v3)]) d_RQ_readFilter_133 (Nat.le_of_ble_eq_true rfl) rfl ?_
            refine xG_pick [4, 5, 6, 7, 3, 2, 1, 0] rfl ?_
            exact h
          by_cases c2 : I 2 ((I 1 1).toNatClampNeg) = 161
          · have h := h.2.2.1 c2
            refine xG_topi (x' := 161) c2 ?_
            refine xG_lookup (off := 66) (tgt := 132) d_RQ_readFilter_66 (by decide) rfl (by decide) ?_
            refine xG_iconst (v := 0) d_RQ_readFilter_132 rfl ?_
            refine xG_istore (lv' := [(7, xi 0), (6, xi z2), (5, xi z1), (4, xi (I 2 ((I 1 1).toNatClampNeg))), (0, xq (some 1)), (1, xi v1), (2, xi v2), (3, xi v3)]) d_RQ_readFilter_133 (Nat.le_of_ble_eq_true rfl) rfl ?_
            refine xG_pick [4, 5, 6, 7, 3, 2, 1, 0] rfl ?_
            exact h
          by_cases c3 : I 2 ((I 1 1).toNatClampNeg) = 162
          · have h := h.2.2.2.1 c3
            refine xG_topi (x' := 162) c3 ?_
            refine xG_lookup (off := 122) (tgt := 188) d_RQ_readFilter_66 (by decide) rfl (by decide) ?_
            refine xG_aload_n d_RQ_readFilter_188 rfl rfl rfl ?_
            refine xG_iload d_RQ_readFilter_189 rfl ?_
            refine xG_iload d_RQ_readFilter_191 rfl ?_
            refine xG_iload_n d_RQ_readFilter_193 rfl rfl ?_
            refine xG_iconst (v := 1) d_RQ_readFilter_194 rfl ?_
            refine xG_iadd d_RQ_readFilter_195 ?_
            obtain ⟨Q4, hM, h⟩ := h
            refine xG_callv (as := [xi z1, xi z2, xi (v3 + 1)]) (rest := []) d_RQ_readFilter_196 yv_RQ_readFilter w2_103 rfl rfl rfl s0_1 (by decide) rfl hM ⟨by simp only [xR]; omega, by simp only [xR]; omega⟩ (Nat.le_of_ble_eq_true rfl) ⟨Nat.zero_le _, Nat.zero_le _⟩ (fun r S4 I4 J4 P4 hp => ?_)
            obtain ⟨rfl, hL4, z4, rfl, hq⟩ := hp
            have h := h z4 I4 J4 P4 hq
            refine xG_if_eq (tgt := 215) d_RQ_readFilter_199 (by decide) (fun c => ?_) (fun c => ?_)
            · have h := h.1 c
              refine xG_iconst (v := 0) d_RQ_readFilter_215 rfl ?_
              exact xG_ireturn d_RQ_readFilter_216 rfl rfl ⟨rfl, hL4, _, rfl, h⟩
            · have h := h.2 c
              refine xG_aload_n d_RQ_readFilter_202 rfl rfl rfl ?_
              refine xG_geti d_RQ_readFilter_203 xf_RQ_15 rfl s0_1 ?_
              refine xG_iload d_RQ_readFilter_206 rfl ?_
              refine xG_icmp_ne (tgt := 215) d_RQ_readFilter_208 (by decide) (fun c => ?_) (fun c => ?_)
              · have h := h.1 c
                refine xG_iconst (v := 0) d_RQ_readFilter_215 rfl ?_
                exact xG_ireturn d_RQ_readFilter_216 rfl rfl ⟨rfl, hL4, _, rfl, h⟩
              · have h := h.2 c
                refine xG_iconst (v := 1) d_RQ_readFilter_211 rfl ?_
                refine xG_goto (tgt := 216) d_RQ_readFilter_212 (by decide) ?_
                exact xG_ireturn d_RQ_readFilter_216 rfl rfl ⟨rfl, hL4, _, rfl, h⟩
          by_cases c4 : I 2 ((I 1 1).toNatClampNeg) = 163
          · have h := h.2.2.2.2.1 c4
            refine xG_topi (x' := 163) c4 ?_
            refine xG_lookup (off := 151) (tgt := 217) d_RQ_readFilter_66 (by decide) rfl (by decide) ?_
            refine xG_aload_n d_RQ_readFilter_217 rfl rfl rfl ?_
            refine xG_iconst (v := 4) d_RQ_readFilter_218 rfl ?_
            refine xG_iload d_RQ_readFilter_219 rfl ?_
            obtain ⟨Q5, hM, h⟩ := h
            refine xG_callv (as := [xi 4, xi z1]) (rest := []) d_RQ_readFilter_221 yv_RQ_readText w2_71 rfl rfl rfl s0_1 (by decide) rfl hM ⟨by simp only [xR]; omega, by simp only [xR]; omega⟩ (Nat.le_of_ble_eq_true rfl) ⟨Nat.zero_le _, Nat.zero_le _⟩ (fun r S5 I5 J5 P5 hp => ?_)
            obtain ⟨rfl, hL5, z5, rfl, hq⟩ := hp
            have h := h z5 I5 J5 P5 hq
            refine xG_if_eq (tgt := 250) d_RQ_readFilter_224 (by decide) (fun c => ?_) (fun c => ?_)
            · have h := h.1 c
              refine xG_iconst (v := 0) d_RQ_readFilter_250 rfl ?_
              exact xG_ireturn d_RQ_readFilter_251 rfl rfl ⟨rfl, hL5, _, rfl, h⟩
            · have h := h.2 c
              refine xG_aload_n d_RQ_readFilter_227 rfl rfl rfl ?_
              refine xG_iconst (v := 4) d_RQ_readFilter_228 rfl ?_
              refine xG_iload d_RQ_readFilter_229 rfl ?_
              obtain ⟨Q6, hM, h⟩ := h
              refine xG_callv (as := [xi 4, xi z1]) (rest := []) d_RQ_readFilter_231 yv_RQ_readText w2_71 rfl rfl rfl s0_1 (by decide) rfl hM ⟨by simp only [xR]; omega, by simp only [xR]; omega⟩ (Nat.le_of_ble_eq_true rfl) ⟨Nat.zero_le _, Nat.zero_le _⟩ (fun r S6 I6 J6 P6 hp => ?_)
              obtain ⟨rfl, hL6, z6, rfl, hq⟩ := hp
              have h := h z6 I6 J6 P6 hq
              refine xG_if_eq (tgt := 250) d_RQ_readFilter_234 (by decide) (fun c => ?_) (fun c => ?_)
              · have h := h.1 c
                refine xG_iconst (v := 0) d_RQ_readFilter_250 rfl ?_
                exact xG_ireturn d_RQ_readFilter_251 rfl rfl ⟨rfl, hL6, _, rfl, h⟩
              · have h := h.2 c
                refine xG_aload_n d_RQ_readFilter_237 rfl rfl rfl ?_
                refine xG_geti d_RQ_readFilter_238 xf_RQ_15 rfl s0_1 ?_
                refine xG_iload d_RQ_readFilter_241 rfl ?_
                refine xG_icmp_ne (tgt := 250) d_RQ_readFilter_243 (by decide) (fun c => ?_) (fun c => ?_)
                · have h := h.1 c
                  refine xG_iconst (v := 0) d_RQ_readFilter_250 rfl ?_
                  exact xG_ireturn d_RQ_readFilter_251 rfl rfl ⟨rfl, hL6, _, rfl, h⟩
                · have h := h.2 c
                  refine xG_iconst (v := 1) d_RQ_readFilter_246 rfl ?_
                  refine xG_goto (tgt := 251) d_RQ_readFilter_247 (by decide) ?_
                  exact xG_ireturn d_RQ_readFilter_251 rfl rfl ⟨rfl, hL6, _, rfl, h⟩
          by_cases c5 : I 2 ((I 1 1).toNatClampNeg) = 165
          · have h := h.2.2.2.2.2.1 c5
            refine xG_topi (x' := 165) c5 ?_
            refine xG_lookup (off := 151) (tgt := 217) d_RQ_readFilter_66 (by decide) rfl (by decide) ?_
            refine xG_aload_n d_RQ_readFilter_217 rfl rfl rfl ?_
            refine xG_iconst (v := 4) d_RQ_readFilter_218 rfl ?_
            refine xG_iload d_RQ_readFilter_219 rfl ?_
            obtain ⟨Q7, hM, h⟩ := h
            refine xG_callv (as := [xi 4, xi z1]) (rest := []) d_RQ_readFilter_221 yv_RQ_readText w2_71 rfl rfl rfl s0_1 (by decide) rfl hM ⟨by simp only [xR]; omega, by simp only [xR]; omega⟩ (Nat.le_of_ble_eq_true rfl) ⟨Nat.zero_le _, Nat.zero_le _⟩ (fun r S7 I7 J7 P7 hp => ?_)
            obtain ⟨rfl, hL7, z7, rfl, hq⟩ := hp
            have h := h z7 I7 J7 P7 hq
            refine xG_if_eq (tgt := 250) d_RQ_readFilter_224 (by decide) (fun c => ?_) (fun c => ?_)
            · have h := h.1 c
              refine xG_iconst (v := 0) d_RQ_readFilter_250 rfl ?_
              exact xG_ireturn d_RQ_readFilter_251 rfl rfl ⟨rfl, hL7, _, rfl, h⟩
            · have h := h.2 c
              refine xG_aload_n d_RQ_readFilter_227 rfl rfl rfl ?_
              refine xG_iconst (v := 4) d_RQ_readFilter_228 rfl ?_
              refine xG_iload d_RQ_readFilter_229 rfl ?_
              obtain ⟨Q8, hM, h⟩ := h
              refine xG_callv (as := [xi 4, xi z1]) (rest := []) d_RQ_readFilter_231 yv_RQ_readText w2_71 rfl rfl rfl s0_1 (by decide) rfl hM ⟨by simp only [xR]; omega, by simp only [xR]; omega⟩ (Nat.le_of_ble_eq_true rfl) ⟨Nat.zero_le _, Nat.zero_le _⟩ (fun r S8 I8 J8 P8 hp => ?_)
              obtain ⟨rfl, hL8, z8, rfl, hq⟩ := hp
              have h := h z8 I8 J8 P8 hq
              refine xG_if_eq (tgt := 250) d_RQ_readFilter_234 (by decide) (fun c => ?_) (fun c => ?_)
              · have h := h.1 c
                refine xG_iconst (v := 0) d_RQ_readFilter_250 rfl ?_
                exact xG_ireturn d_RQ_readFilter_251 rfl rfl ⟨rfl, hL8, _, rfl, h⟩
              · have h := h.2 c
                refine xG_aload_n d_RQ_readFilter_237 rfl rfl rfl ?_
                refine xG_geti d_RQ_readFilter_238 xf_RQ_15 rfl s0_1 ?_
                refine xG_iload d_RQ_readFilter_241 rfl ?_
                refine xG_icmp_ne (tgt := 250) d_RQ_readFilter_243 (by decide) (fun c => ?_) (fun c => ?_)
                · have h := h.1 c
                  refine xG_iconst (v := 0) d_RQ_readFilter_250 rfl ?_
                  exact xG_ireturn d_RQ_readFilter_251 rfl rfl ⟨rfl, hL8, _, rfl, h⟩
                · have h := h.2 c
                  refine xG_iconst (v := 1) d_RQ_readFilter_246 rfl ?_
                  refine xG_goto (tgt := 251) d_RQ_readFilter_247 (by decide) ?_
                  exact xG_ireturn d_RQ_readFilter_251 rfl rfl ⟨rfl, hL8, _, rfl, h⟩
          by_cases c6 : I 2 ((I 1 1).toNatClampNeg) = 166
          · have h := h.2.2.2.2.2.2.1 c6
            refine xG_topi (x' := 166) c6 ?_
            refine xG_lookup (off := 151) (tgt := 217) d_RQ_readFilter_66 (by decide) rfl (by decide) ?_
            refine xG_aload_n d_RQ_readFilter_217 rfl rfl rfl ?_
            refine xG_iconst (v := 4) d_RQ_readFilter_218 rfl ?_
            refine xG_iload d_RQ_readFilter_219 rfl ?_
            obtain ⟨Q9, hM, h⟩ := h
            refine xG_callv (as := [xi 4, xi z1]) (rest := []) d_RQ_readFilter_221 yv_RQ_readText w2_71 rfl rfl rfl s0_1 (by decide) rfl hM ⟨by simp only [xR]; omega, by simp only [xR]; omega⟩ (Nat.le_of_ble_eq_true rfl) ⟨Nat.zero_le _, Nat.zero_le _⟩ (fun r S9 I9 J9 P9 hp => ?_)
            obtain ⟨rfl, hL9, z9, rfl, hq⟩ := hp
            have h := h z9 I9 J9 P9 hq
            refine xG_if_eq (tgt := 250) d_RQ_readFilter_224 (by decide) (fun c => ?_) (fun c => ?_)
            · have h := h.1 c
              refine xG_iconst (v := 0) d_RQ_readFilter_250 rfl ?_
              exact xG_ireturn d_RQ_readFilter_251 rfl rfl ⟨rfl, hL9, _, rfl, h⟩
            · have h := h.2 c
              refine xG_aload_n d_RQ_readFilter_227 rfl rfl rfl ?_
              refine xG_iconst (v := 4) d_RQ_readFilter_228 rfl ?_
              refine xG_iload d_RQ_readFilter_229 rfl ?_
              obtain ⟨Q10, hM, h⟩ := h
              refine xG_callv (as := [xi 4, xi z1]) (rest := []) d_RQ_readFilter_231 yv_RQ_readText w2_71 rfl rfl rfl s0_1 (by decide) rfl hM ⟨by simp only [xR]; omega, by simp only [xR]; omega⟩ (Nat.le_of_ble_eq_true rfl) ⟨Nat.zero_le _, Nat.zero_le _⟩ (fun r S10 I10 J10 P10 hp => ?_)
              obtain ⟨rfl, hL10, z10, rfl, hq⟩ := hp
              have h := h z10 I10 J10 P10 hq
              refine xG_if_eq (tgt := 250) d_RQ_readFilter_234 (by decide) (fun c => ?_) (fun c => ?_)
              · have h := h.1 c
                refine xG_iconst (v := 0) d_RQ_readFilter_250 rfl ?_
                exact xG_ireturn d_RQ_readFilter_251 rfl rfl ⟨rfl, hL10, _, rfl, h⟩
              · have h := h.2 c
                refine xG_aload_n d_RQ_readFilter_237 rfl rfl rfl ?_
                refine xG_geti d_RQ_readFilter_238 xf_RQ_15 rfl s0_1 ?_
                refine xG_iload d_RQ_readFilter_241 rfl ?_
                refine xG_icmp_ne (tgt := 250) d_RQ_readFilter_243 (by decide) (fun c => ?_) (fun c => ?_)
                · have h := h.1 c
                  refine xG_iconst (v := 0) d_RQ_readFilter_250 rfl ?_
                  exact xG_ireturn d_RQ_readFilter_251 rfl rfl ⟨rfl, hL10, _, rfl, h⟩
                · have h := h.2 c
                  refine xG_iconst (v := 1) d_RQ_readFilter_246 rfl ?_
                  refine xG_goto (tgt := 251) d_RQ_readFilter_247 (by decide) ?_
                  exact xG_ireturn d_RQ_readFilter_251 rfl rfl ⟨rfl, hL10, _, rfl, h⟩
          have h := h.2.2.2.2.2.2.2 c0 c1 c2 c3 c4 c5 c6
          refine xG_lookup (off := 193) (tgt := 259) d_RQ_readFilter_66 (by decide) (by rw [lv_osw c0 (by decide)]; rw [lv_osw c1 (by decide)]; rw [lv_osw c2 (by decide)]; rw [lv_osw c3 (by decide)]; rw [lv_osw c4 (by decide)]; rw [lv_osw c5 (by decide)]; rw [lv_osw c6 (by decide)]; rfl) (by decide) ?_
          refine xG_iconst (v := 0) d_RQ_readFilter_259 rfl ?_
          exact xG_ireturn d_RQ_readFilter_260 rfl rfl ⟨rfl, hL2, _, rfl, h⟩
        · have h := h.2 c
          refine xG_iconst (v := 0) d_RQ_readFilter_62 rfl ?_
          exact xG_ireturn d_RQ_readFilter_63 rfl rfl ⟨rfl, hL2, _, rfl, h⟩
    · have h := h.2 c
      refine xG_iconst (v := 0) d_RQ_readFilter_14 rfl ?_
      exact xG_ireturn d_RQ_readFilter_15 rfl rfl ⟨rfl, hL, _, rfl, h⟩
set_option maxRecDepth 20000 in
theorem b_RQ_readFilter_135 {n : Nat} {l : Launch} {V : xV} {Q : Int32 → xIt → xJt → xPt → Prop} {I : xIt} {J : xJt} {P : xPt} (hL : xL P) {v1 : Int32} {v2 : Int32} {v3 : Int32} {v4 : Int32} {v5 : Int32} {v6 : Int32} {v7 : Int32} (h : ((12 ≤ v7 → ((¬ (I 1 1) = v5 → Q 0 I J P) ∧ ((I 1 1) = v5 → Q 1 I J P))) ∧ (¬ 12 ≤ v7 → ((v5 ≤ (I 1 1) → ((¬ (I 1 1) = v5 → Q 0 I J P) ∧ ((I 1 1) = v5 → Q 1 I J P))) ∧ (¬ v5 ≤ (I 1 1) → (∃ Q1 : Int32 → xIt → xJt → xPt → Prop, xMet l V y_RQ_readFilter (n + 3) 0 0 [xq (some 1), xi v5, xi v6, xi (v3 + 1)] xS0 I J P (xPi Q1) ∧ ∀ (z1 : Int32) (I1 : xIt) (J1 : xJt) (P1 : xPt), Q1 z1 I1 J1 P1 → ((¬ z1 = 0 → G_RQ_readFilter n l V Q 135 [(0, xq (some 1)), (1, xi v1), (2, xi v2), (3, xi v3), (4, xi v4), (5, xi v5), (6, xi v6), (7, xi (v7 + 1))] [] I1 J1 P1) ∧ (z1 = 0 → Q 0 I1 J1 P1)))))))) : G_RQ_readFilter n l V Q 135 [(0, xq (some 1)), (1, xi v1), (2, xi v2), (3, xi v3), (4, xi v4), (5, xi v5), (6, xi v6), (7, xi v7)] [] I J P := by
  refine xG_iload d_RQ_readFilter_135 rfl ?_
  refine xG_bipush (v := 12) d_RQ_readFilter_137 rfl ?_
  refine xG_icmp_ge (tgt := 173) d_RQ_readFilter_139 (by decide) (fun c => ?_) (fun c => ?_)
  · have h := h.1 c
    refine xG_aload_n d_RQ_readFilter_173 rfl rfl rfl ?_
    refine xG_geti d_RQ_readFilter_174 xf_RQ_15 rfl s0_1 ?_
    refine xG_iload d_RQ_readFilter_177 rfl ?_
    refine xG_icmp_ne (tgt := 186) d_RQ_readFilter_179 (by decide) (fun c => ?_) (fun c => ?_)
    · have h := h.1 c
      refine xG_iconst (v := 0) d_RQ_readFilter_186 rfl ?_
      exact xG_ireturn d_RQ_readFilter_187 rfl rfl ⟨rfl, hL, _, rfl, h⟩
    · have h := h.2 c
      refine xG_iconst (v := 1) d_RQ_readFilter_182 rfl ?_
      refine xG_goto (tgt := 187) d_RQ_readFilter_183 (by decide) ?_
      exact xG_ireturn d_RQ_readFilter_187 rfl rfl ⟨rfl, hL, _, rfl, h⟩
  · have h := h.2 c
    refine xG_aload_n d_RQ_readFilter_142 rfl rfl rfl ?_
    refine xG_geti d_RQ_readFilter_143 xf_RQ_15 rfl s0_1 ?_
    refine xG_iload d_RQ_readFilter_146 rfl ?_
    refine xG_icmp_ge (tgt := 173) d_RQ_readFilter_148 (by decide) (fun c => ?_) (fun c => ?_)
    · have h := h.1 c
      refine xG_aload_n d_RQ_readFilter_173 rfl rfl rfl ?_
      refine xG_geti d_RQ_readFilter_174 xf_RQ_15 rfl s0_1 ?_
      refine xG_iload d_RQ_readFilter_177 rfl ?_
      refine xG_icmp_ne (tgt := 186) d_RQ_readFilter_179 (by decide) (fun c => ?_) (fun c => ?_)
      · have h := h.1 c
        refine xG_iconst (v := 0) d_RQ_readFilter_186 rfl ?_
        exact xG_ireturn d_RQ_readFilter_187 rfl rfl ⟨rfl, hL, _, rfl, h⟩
      · have h := h.2 c
        refine xG_iconst (v := 1) d_RQ_readFilter_182 rfl ?_
        refine xG_goto (tgt := 187) d_RQ_readFilter_183 (by decide) ?_
        exact xG_ireturn d_RQ_readFilter_187 rfl rfl ⟨rfl, hL, _, rfl, h⟩
    · have h := h.2 c
      refine xG_aload_n d_RQ_readFilter_151 rfl rfl rfl ?_
      refine xG_iload d_RQ_readFilter_152 rfl ?_
      refine xG_iload d_RQ_readFilter_154 rfl ?_
      refine xG_iload_n d_RQ_readFilter_156 rfl rfl ?_
      refine xG_iconst (v := 1) d_RQ_readFilter_157 rfl ?_
      refine xG_iadd d_RQ_readFilter_158 ?_
      obtain ⟨Q1, hM, h⟩ := h
      refine xG_callv (as := [xi v5, xi v6, xi (v3 + 1)]) (rest := []) d_RQ_readFilter_159 yv_RQ_readFilter w2_103 rfl rfl rfl s0_1 (by decide) rfl hM ⟨by simp only [xR]; omega, by simp only [xR]; omega⟩ (Nat.le_of_ble_eq_true rfl) ⟨Nat.zero_le _, Nat.zero_le _⟩ (fun r S1 I1 J1 P1 hp => ?_)
      obtain ⟨rfl, hL1, z1, rfl, hq⟩ := hp
      have h := h z1 I1 J1 P1 hq
      refine xG_if_ne (tgt := 167) d_RQ_readFilter_162 (by decide) (fun c => ?_) (fun c => ?_)
      · have h := h.1 c
        refine xG_iinc (v := v7 + 1) (lv' := [(7, xi (v7 + 1)), (0, xq (some 1)), (1, xi v1), (2, xi v2), (3, xi v3), (4, xi v4), (5, xi v5), (6, xi v6)]) d_RQ_readFilter_167 rfl rfl (Nat.le_of_ble_eq_true rfl) rfl ?_
        refine xG_goto (tgt := 135) d_RQ_readFilter_170 (by decide) ?_
        refine xG_pick [1, 2, 3, 4, 5, 6, 7, 0] rfl ?_
        exact h
      · have h := h.2 c
        refine xG_iconst (v := 0) d_RQ_readFilter_165 rfl ?_
        exact xG_ireturn d_RQ_readFilter_166 rfl rfl ⟨rfl, hL1, _, rfl, h⟩
theorem e_RQ_readFilter {n : Nat} {l : Launch} {V : xV} {Q : Int32 → xIt → xJt → xPt → Prop} {I : xIt} {J : xJt} {P : xPt} {v1 : Int32} {v2 : Int32} {v3 : Int32} (h : G_RQ_readFilter n l V Q 0 [(0, xq (some 1)), (1, xi v1), (2, xi v2), (3, xi v3)] [] I J P) : xMet l V y_RQ_readFilter (n + 4) 0 0 [xq (some 1), xi v1, xi v2, xi v3] xS0 I J P (xPi Q) := xMet_of (by decide) (Nat.le_of_ble_eq_true rfl) h

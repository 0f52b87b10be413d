abbrev G_FL_clear (l : Launch) (V : xV) (Q : xIt → xJt → xPt → Prop) (pc : Nat) (lv : List (Nat × xX)) (st : List xX) (I : xIt) (J : xJt) (P : xPt) : Prop := xG l V y_FL_clear (xR 1 0 0) (xFn V y_FL_clear (xR 1 0 0) (xPv Q)) pc lv st xS0 I J P (0, 0)
set_option maxRecDepth 20000 in
theorem b_FL_clear_0 {l : Launch} {V : xV} {Q : xIt → xJt → xPt → Prop} {I : xIt} {J : xJt} {P : xPt} (hL : xL P)  (h : Q (xu I 6 6 0) J P) : G_FL_clear l V Q 0 [(0, xq (some 6))] [] I J P := by
  refine xG_aload_n d_FL_clear_0 rfl rfl rfl ?_
  refine xG_iconst (v := 0) d_FL_clear_1 rfl ?_
  refine xG_puti d_FL_clear_2 xf_FL_31 (Or.inl rfl) rfl s0_6 rfl rfl ?_
  exact xG_return d_FL_clear_5 rfl ⟨rfl, hL, rfl, h⟩
theorem e_FL_clear {l : Launch} {V : xV} {Q : xIt → xJt → xPt → Prop} {I : xIt} {J : xJt} {P : xPt}  (h : G_FL_clear l V Q 0 [(0, xq (some 6))] [] I J P) : xMet l V y_FL_clear 1 0 0 [xq (some 6)] xS0 I J P (xPv Q) := xMet_of (by decide) (Nat.le_of_ble_eq_true rfl) h

abbrev G_FL_add (l : Launch) (V : xV) (Q : Int32 → xIt → xJt → xPt → Prop) (pc : Nat) (lv : List (Nat × xX)) (st : List xX) (I : xIt) (J : xJt) (P : xPt) : Prop := xG l V y_FL_add (xR 1 0 0) (xFn V y_FL_add (xR 1 0 0) (xPi Q)) pc lv st xS0 I J P (0, 0)
set_option maxRecDepth 20000 in
theorem b_FL_add_0 {l : Launch} {V : xV} {Q : Int32 → xIt → xJt → xPt → Prop} {I : xIt} {J : xJt} {P : xPt} (hL : xL P) {v1 : Int32} {v2 : Int32} {v3 : Int32} (h : ((¬ (I 6 6) = 12 → (vp_in (I 6 6) 12 ∧ (vp_in (I 6 6) 12 ∧ (vp_in (I 6 6) 12 ∧ Q (((I 6 6) + 1) - 1) (xu (xu (xu (xu I 7 ((I 6 6).toNatClampNeg) v1) 8 ((I 6 6).toNatClampNeg) v2) 9 ((I 6 6).toNatClampNeg) v3) 6 6 ((I 6 6) + 1)) J P)))) ∧ ((I 6 6) = 12 → Q (-1) I J P))) : G_FL_add l V Q 0 [(0, xq (some 6)), (1, xi v1), (2, xi v2), (3, xi v3)] [] I J P := by
  refine xG_aload_n d_FL_add_0 rfl rfl rfl ?_
  refine xG_geti d_FL_add_1 xf_FL_31 rfl s0_6 ?_
  refine xG_bipush (v := 12) d_FL_add_4 rfl ?_
  refine xG_icmp_ne (tgt := 11) d_FL_add_6 (by decide) (fun c => ?_) (fun c => ?_)
  · have h := h.1 c
    refine xG_aload_n d_FL_add_11 rfl rfl rfl ?_
    refine xG_getq d_FL_add_12 xf_FL_11 rfl s0_6 ?_
    refine xG_aload_n d_FL_add_15 rfl rfl rfl ?_
    refine xG_geti d_FL_add_16 xf_FL_31 rfl s0_6 ?_
    refine xG_iload_n d_FL_add_19 rfl rfl ?_
    refine xG_iast d_FL_add_20 (lp_6_0 hL) s0_7 h.1 ?_
    have h := h.2
    refine xG_aload_n d_FL_add_21 rfl rfl rfl ?_
    refine xG_getq d_FL_add_22 xf_FL_15 rfl s0_6 ?_
    refine xG_aload_n d_FL_add_25 rfl rfl rfl ?_
    refine xG_geti d_FL_add_26 xf_FL_31 rfl s0_6 ?_
    refine xG_topi (x' := I 6 6) (by first | rfl | exact xu_at | simp [xu]) ?_
    refine xG_iload_n d_FL_add_29 rfl rfl ?_
    refine xG_iast d_FL_add_30 (lp_6_1 hL) s0_8 h.1 ?_
    have h := h.2
    refine xG_aload_n d_FL_add_31 rfl rfl rfl ?_
    refine xG_getq d_FL_add_32 xf_FL_18 rfl s0_6 ?_
    refine xG_aload_n d_FL_add_35 rfl rfl rfl ?_
    refine xG_geti d_FL_add_36 xf_FL_31 rfl s0_6 ?_
    refine xG_topi (x' := I 6 6) (by first | rfl | exact xu_at | simp [xu]) ?_
    refine xG_iload_n d_FL_add_39 rfl rfl ?_
    refine xG_iast d_FL_add_40 (lp_6_2 hL) s0_9 h.1 ?_
    have h := h.2
    refine xG_aload_n d_FL_add_41 rfl rfl rfl ?_
    refine xG_dup d_FL_add_42 rfl ?_
    refine xG_geti d_FL_add_43 xf_FL_31 rfl s0_6 ?_
    refine xG_topi (x' := I 6 6) (by first | rfl | exact xu_at | simp [xu]) ?_
    refine xG_iconst (v := 1) d_FL_add_46 rfl ?_
    refine xG_iadd d_FL_add_47 ?_
    refine xG_puti d_FL_add_48 xf_FL_31 (Or.inl rfl) rfl s0_6 rfl rfl ?_
    refine xG_aload_n d_FL_add_51 rfl rfl rfl ?_
    refine xG_geti d_FL_add_52 xf_FL_31 rfl s0_6 ?_
    refine xG_topi (x' := (I 6 6) + 1) (by first | rfl | exact xu_at | simp [xu]) ?_
    refine xG_iconst (v := 1) d_FL_add_55 rfl ?_
    refine xG_isub d_FL_add_56 ?_
    exact xG_ireturn d_FL_add_57 rfl rfl ⟨rfl, hL, _, rfl, h⟩
  · have h := h.2 c
    refine xG_iconst (v := (-1)) d_FL_add_9 rfl ?_
    exact xG_ireturn d_FL_add_10 rfl rfl ⟨rfl, hL, _, rfl, h⟩
theorem e_FL_add {l : Launch} {V : xV} {Q : Int32 → xIt → xJt → xPt → Prop} {I : xIt} {J : xJt} {P : xPt} {v1 : Int32} {v2 : Int32} {v3 : Int32} (h : G_FL_add l V Q 0 [(0, xq (some 6)), (1, xi v1), (2, xi v2), (3, xi v3)] [] I J P) : xMet l V y_FL_add 1 0 0 [xq (some 6), xi v1, xi v2, xi v3] xS0 I J P (xPi Q) := xMet_of (by decide) (Nat.le_of_ble_eq_true rfl) h

abbrev G_FL_readLeaves (l : Launch) (V : xV) (Q : xIt → xJt → xPt → Prop) (pc : Nat) (lv : List (Nat × xX)) (st : List xX) (I : xIt) (J : xJt) (P : xPt) : Prop := xG l V y_FL_readLeaves (xR 4 0 0) (xFn V y_FL_readLeaves (xR 4 0 0) (xPv Q)) pc lv st xS0 I J P (0, 0)
set_option maxRecDepth 20000 in
theorem b_FL_readLeaves_0 {l : Launch} {V : xV} {Q : xIt → xJt → xPt → Prop} {I : xIt} {J : xJt} {P : xPt} (hL : xL P) {v1 : Option Nat} (h : G_FL_readLeaves l V Q 2 [(0, xq (some 6)), (1, xq v1), (2, xi 0)] [] I J P) : G_FL_readLeaves l V Q 0 [(0, xq (some 6)), (1, xq v1)] [] I J P := by
  refine xG_iconst (v := 0) d_FL_readLeaves_0 rfl ?_
  refine xG_istore_n (lv' := [(2, xi 0), (0, xq (some 6)), (1, xq v1)]) d_FL_readLeaves_1 rfl (Nat.le_of_ble_eq_true rfl) rfl ?_
  refine xG_pick [1, 2, 0] rfl ?_
  exact h
set_option maxRecDepth 20000 in
theorem b_FL_readLeaves_2 {l : Launch} {V : xV} {Q : xIt → xJt → xPt → Prop} {I : xIt} {J : xJt} {P : xPt} (hL : xL P) {v1 : Option Nat} {v2 : Int32} (h : (((I 6 6) ≤ v2 → Q I J P) ∧ (¬ (I 6 6) ≤ v2 → (vp_in v2 12 ∧ (vp_in v2 12 ∧ (vp_in v2 12 ∧ (∃ Q1 : Int32 → xIt → xJt → xPt → Prop, xMet l V y_FL_holdsFilters 1 0 0 [xi (I 7 v2.toNatClampNeg)] xS0 (xu I 10 v2.toNatClampNeg (-1)) (xu J 11 v2.toNatClampNeg (-1)) P (xPi Q1) ∧ ∀ (z1 : Int32) (I1 : xIt) (J1 : xJt) (P1 : xPt), Q1 z1 I1 J1 P1 → ((¬ z1 = 0 → G_FL_readLeaves l V Q 2 [(0, xq (some 6)), (1, xq v1), (2, xi (v2 + 1))] [] I1 J1 P1) ∧ (z1 = 0 → (vp_in v2 12 ∧ (∃ a2 : Nat, v1 = some a2 ∧ xS0[a2]? = some (1, 0) ∧ (∃ Q3 : Int32 → xIt → xJt → xPt → Prop, xMet l V y_RQ_typeOf 3 0 0 [xq (some a2), xi (I1 9 v2.toNatClampNeg)] xS0 I1 J1 P1 (xPi Q3) ∧ ∀ (z3 : Int32) (I3 : xIt) (J3 : xJt) (P3 : xPt), Q3 z3 I3 J3 P3 → (vp_in v2 12 ∧ (vp_in v2 12 ∧ (((I3 7 v2.toNatClampNeg) = 135 → G_FL_readLeaves l V Q 2 [(0, xq (some 6)), (1, xq v1), (2, xi (v2 + 1))] [] (xu I3 10 v2.toNatClampNeg z3) J3 P3) ∧ (¬ (I3 7 v2.toNatClampNeg) = 135 → (vp_in v2 12 ∧ (vp_in v2 12 ∧ (∃ Q4 : Int64 → xIt → xJt → xPt → Prop, xMet l V y_RQ_packed 3 0 0 [xq (some a2), xi ((I3 9 v2.toNatClampNeg) + 1)] xS0 (xu I3 10 v2.toNatClampNeg z3) J3 P3 (xPl Q4) ∧ ∀ (z4 : Int64) (I4 : xIt) (J4 : xJt) (P4 : xPt), Q4 z4 I4 J4 P4 → (∃ Q5 : Int64 → xIt → xJt → xPt → Prop, xMet l V y_SX_plainOf 3 0 0 [xi z3, xj z4] xS0 I4 J4 P4 (xPl Q5) ∧ ∀ (z5 : Int64) (I5 : xIt) (J5 : xJt) (P5 : xPt), Q5 z5 I5 J5 P5 → (vp_in v2 12 ∧ G_FL_readLeaves l V Q 2 [(0, xq (some 6)), (1, xq v1), (2, xi (v2 + 1))] [] I5 (xu J5 11 v2.toNatClampNeg z5) P5))))))))))))))))))))) : G_FL_readLeaves l V Q 2 [(0, xq (some 6)), (1, xq v1), (2, xi v2)] [] I J P := by
  refine xG_iload_n d_FL_readLeaves_2 rfl rfl ?_
  refine xG_aload_n d_FL_readLeaves_3 rfl rfl rfl ?_
  refine xG_geti d_FL_readLeaves_4 xf_FL_31 rfl s0_6 ?_
  refine xG_icmp_ge (tgt := 99) d_FL_readLeaves_7 (by decide) (fun c => ?_) (fun c => ?_)
  · have h := h.1 c
    exact xG_return d_FL_readLeaves_99 rfl ⟨rfl, hL, rfl, h⟩
  · have h := h.2 c
    refine xG_aload_n d_FL_readLeaves_10 rfl rfl rfl ?_
    refine xG_getq d_FL_readLeaves_11 xf_FL_21 rfl s0_6 ?_
    refine xG_iload_n d_FL_readLeaves_14 rfl rfl ?_
    refine xG_iconst (v := (-1)) d_FL_readLeaves_15 rfl ?_
    refine xG_iast d_FL_readLeaves_16 (lp_6_3 hL) s0_10 h.1 ?_
    have h := h.2
    refine xG_aload_n d_FL_readLeaves_17 rfl rfl rfl ?_
    refine xG_getq d_FL_readLeaves_18 xf_FL_24 rfl s0_6 ?_
    refine xG_iload_n d_FL_readLeaves_21 rfl rfl ?_
    refine xG_ldc2 (v := (-1)) d_FL_readLeaves_22 w2_219 ?_
    refine xG_last d_FL_readLeaves_25 (lp_6_4 hL) s0_11 h.1 ?_
    have h := h.2
    refine xG_aload_n d_FL_readLeaves_26 rfl rfl rfl ?_
    refine xG_getq d_FL_readLeaves_27 xf_FL_11 rfl s0_6 ?_
    refine xG_iload_n d_FL_readLeaves_30 rfl rfl ?_
    refine xG_iald d_FL_readLeaves_31 (lp_6_0 hL) s0_7 h.1 ?_
    have h := h.2
    refine xG_topi (x' := I 7 v2.toNatClampNeg) (by first | rfl | exact xu_at | simp [xu]) ?_
    obtain ⟨Q1, hM, h⟩ := h
    refine xG_calls (as := [xi (I 7 v2.toNatClampNeg)]) (rest := []) d_FL_readLeaves_32 ys_FL_holdsFilters w2_220 rfl rfl hM ⟨by decide, by decide⟩ (Nat.le_of_ble_eq_true rfl) ⟨Nat.zero_le _, Nat.zero_le _⟩ (fun r S1 I1 J1 P1 hp => ?_)
    obtain ⟨rfl, hL1, z1, rfl, hq⟩ := hp
    have h := h z1 I1 J1 P1 hq
    refine xG_if_ne (tgt := 93) d_FL_readLeaves_35 (by decide) (fun c => ?_) (fun c => ?_)
    · have h := h.1 c
      refine xG_iinc (v := v2 + 1) (lv' := [(2, xi (v2 + 1)), (0, xq (some 6)), (1, xq v1)]) d_FL_readLeaves_93 rfl rfl (Nat.le_of_ble_eq_true rfl) rfl ?_
      refine xG_goto (tgt := 2) d_FL_readLeaves_96 (by decide) ?_
      refine xG_pick [1, 2, 0] rfl ?_
      exact h
    · have h := h.2 c
      refine xG_aload_n d_FL_readLeaves_38 rfl rfl rfl ?_
      refine xG_getq d_FL_readLeaves_39 xf_FL_21 rfl s0_6 ?_
      refine xG_iload_n d_FL_readLeaves_42 rfl rfl ?_
      refine xG_aload_n d_FL_readLeaves_43 rfl rfl rfl ?_
      refine xG_aload_n d_FL_readLeaves_44 rfl rfl rfl ?_
      refine xG_getq d_FL_readLeaves_45 xf_FL_18 rfl s0_6 ?_
      refine xG_iload_n d_FL_readLeaves_48 rfl rfl ?_
      refine xG_iald d_FL_readLeaves_49 (lp_6_2 hL1) s0_9 h.1 ?_
      have h := h.2
      obtain ⟨a2, e2, s2, h⟩ := h
      obtain ⟨Q3, hM, h⟩ := h
      refine xG_callv (as := [xi (I1 9 v2.toNatClampNeg)]) (rest := [xi v2, xq (P1 6 3)]) d_FL_readLeaves_50 yv_RQ_typeOf w2_223 rfl e2 rfl s2 (by decide) rfl hM ⟨by decide, by decide⟩ (Nat.le_of_ble_eq_true rfl) ⟨Nat.zero_le _, Nat.zero_le _⟩ (fun r S3 I3 J3 P3 hp => ?_)
      obtain ⟨rfl, hL3, z3, rfl, hq⟩ := hp
      have h := h z3 I3 J3 P3 hq
      refine xG_iast d_FL_readLeaves_53 (lp_6_3 hL1) s0_10 h.1 ?_
      have h := h.2
      refine xG_aload_n d_FL_readLeaves_54 rfl rfl rfl ?_
      refine xG_getq d_FL_readLeaves_55 xf_FL_11 rfl s0_6 ?_
      refine xG_iload_n d_FL_readLeaves_58 rfl rfl ?_
      refine xG_iald d_FL_readLeaves_59 (lp_6_0 hL3) s0_7 h.1 ?_
      have h := h.2
      refine xG_topi (x' := I3 7 v2.toNatClampNeg) (by first | rfl | exact xu_at | simp [xu]) ?_
      refine xG_sipush (v := 135) d_FL_readLeaves_60 rfl ?_
      refine xG_icmp_eq (tgt := 93) d_FL_readLeaves_63 (by decide) (fun c => ?_) (fun c => ?_)
      · have h := h.1 c
        refine xG_iinc (v := v2 + 1) (lv' := [(2, xi (v2 + 1)), (0, xq (some 6)), (1, xq v1)]) d_FL_readLeaves_93 rfl rfl (Nat.le_of_ble_eq_true rfl) rfl ?_
        refine xG_goto (tgt := 2) d_FL_readLeaves_96 (by decide) ?_
        refine xG_pick [1, 2, 0] rfl ?_
        exact h
      · have h := h.2 c
        refine xG_aload_n d_FL_readLeaves_66 rfl rfl rfl ?_
        refine xG_getq d_FL_readLeaves_67 xf_FL_24 rfl s0_6 ?_
        refine xG_iload_n d_FL_readLeaves_70 rfl rfl ?_
        refine xG_aload_n d_FL_readLeaves_71 rfl rfl rfl ?_
        refine xG_getq d_FL_readLeaves_72 xf_FL_21 rfl s0_6 ?_
        refine xG_iload_n d_FL_readLeaves_75 rfl rfl ?_
        refine xG_iald d_FL_readLeaves_76 (lp_6_3 hL3) s0_10 h.1 ?_
        have h := h.2
        refine xG_topi (x' := z3) (by first | rfl | exact xu_at | simp [xu]) ?_
        refine xG_aload_n d_FL_readLeaves_77 rfl rfl rfl ?_
        refine xG_aload_n d_FL_readLeaves_78 rfl rfl rfl ?_
        refine xG_getq d_FL_readLeaves_79 xf_FL_18 rfl s0_6 ?_
        refine xG_iload_n d_FL_readLeaves_82 rfl rfl ?_
        refine xG_iald d_FL_readLeaves_83 (lp_6_2 hL3) s0_9 h.1 ?_
        have h := h.2
        refine xG_topi (x' := I3 9 v2.toNatClampNeg) (by first | rfl | exact xu_at | simp [xu]) ?_
        refine xG_iconst (v := 1) d_FL_readLeaves_84 rfl ?_
        refine xG_iadd d_FL_readLeaves_85 ?_
        obtain ⟨Q4, hM, h⟩ := h
        refine xG_callv (as := [xi ((I3 9 v2.toNatClampNeg) + 1)]) (rest := [xi z3, xi v2, xq (P3 6 4)]) d_FL_readLeaves_86 yv_RQ_packed w2_228 rfl e2 rfl s2 (by decide) rfl hM ⟨by decide, by decide⟩ (Nat.le_of_ble_eq_true rfl) ⟨Nat.zero_le _, Nat.zero_le _⟩ (fun r S4 I4 J4 P4 hp => ?_)
        obtain ⟨rfl, hL4, z4, rfl, hq⟩ := hp
        have h := h z4 I4 J4 P4 hq
        obtain ⟨Q5, hM, h⟩ := h
        refine xG_calls (as := [xi z3, xj z4]) (rest := [xi v2, xq (P3 6 4)]) d_FL_readLeaves_89 ys_SX_plainOf w2_229 rfl rfl hM ⟨by decide, by decide⟩ (Nat.le_of_ble_eq_true rfl) ⟨Nat.zero_le _, Nat.zero_le _⟩ (fun r S5 I5 J5 P5 hp => ?_)
        obtain ⟨rfl, hL5, z5, rfl, hq⟩ := hp
        have h := h z5 I5 J5 P5 hq
        refine xG_last d_FL_readLeaves_92 (lp_6_4 hL3) s0_11 h.1 ?_
        have h := h.2
        refine xG_iinc (v := v2 + 1) (lv' := [(2, xi (v2 + 1)), (0, xq (some 6)), (1, xq v1)]) d_FL_readLeaves_93 rfl rfl (Nat.le_of_ble_eq_true rfl) rfl ?_
        refine xG_goto (tgt := 2) d_FL_readLeaves_96 (by decide) ?_
        refine xG_pick [1, 2, 0] rfl ?_
        exact h
theorem e_FL_readLeaves {l : Launch} {V : xV} {Q : xIt → xJt → xPt → Prop} {I : xIt} {J : xJt} {P : xPt} {v1 : Option Nat} (h : G_FL_readLeaves l V Q 0 [(0, xq (some 6)), (1, xq v1)] [] I J P) : xMet l V y_FL_readLeaves 4 0 0 [xq (some 6), xq v1] xS0 I J P (xPv Q) := xMet_of (by decide) (Nat.le_of_ble_eq_true rfl) h

abbrev G_FL_truthFor (l : Launch) (V : xV) (Q : Int32 → xIt → xJt → xPt → Prop) (pc : Nat) (lv : List (Nat × xX)) (st : List xX) (I : xIt) (J : xJt) (P : xPt) : Prop := xG l V y_FL_truthFor (xR 4 0 0) (xFn V y_FL_truthFor (xR 4 0 0) (xPi Q)) pc lv st xS0 I J P (0, 0)
set_option maxRecDepth 20000 in
theorem b_FL_truthFor_0 {l : Launch} {V : xV} {Q : Int32 → xIt → xJt → xPt → Prop} {I : xIt} {J : xJt} {P : xPt} (hL : xL P) {v1 : Option Nat} (h : G_FL_truthFor l V Q 2 [(0, xq (some 6)), (1, xq v1), (2, xi 0)] [] I J P) : G_FL_truthFor l V Q 0 [(0, xq (some 6)), (1, xq v1)] [] I J P := by
  refine xG_iconst (v := 0) d_FL_truthFor_0 rfl ?_
  refine xG_istore_n (lv' := [(2, xi 0), (0, xq (some 6)), (1, xq v1)]) d_FL_truthFor_1 rfl (Nat.le_of_ble_eq_true rfl) rfl ?_
  refine xG_pick [1, 2, 0] rfl ?_
  exact h
set_option maxRecDepth 20000 in
theorem b_FL_truthFor_2 {l : Launch} {V : xV} {Q : Int32 → xIt → xJt → xPt → Prop} {I : xIt} {J : xJt} {P : xPt} (hL : xL P) {v1 : Option Nat} {v2 : Int32} (h : (((I 6 6) ≤ v2 → G_FL_truthFor l V Q 59 [(0, xq (some 6)), (1, xq v1), (2, xi ((I 6 6) - 1))] [] I J P) ∧ (¬ (I 6 6) ≤ v2 → (vp_in v2 12 ∧ (∃ Q1 : Int32 → xIt → xJt → xPt → Prop, xMet l V y_FL_holdsFilters 1 0 0 [xi (I 7 v2.toNatClampNeg)] xS0 I J P (xPi Q1) ∧ ∀ (z1 : Int32) (I1 : xIt) (J1 : xJt) (P1 : xPt), Q1 z1 I1 J1 P1 → ((z1 = 0 → (∃ Q2 : Int32 → xIt → xJt → xPt → Prop, xMet l V y_FL_leafTruth 3 0 0 [xq (some 6), xi v2, xq v1] xS0 I1 J1 P1 (xPi Q2) ∧ ∀ (z2 : Int32) (I2 : xIt) (J2 : xJt) (P2 : xPt), Q2 z2 I2 J2 P2 → (vp_in v2 12 ∧ G_FL_truthFor l V Q 2 [(0, xq (some 6)), (1, xq v1), (2, xi (v2 + 1))] [] (xu I2 12 v2.toNatClampNeg z2) J2 P2))) ∧ (¬ z1 = 0 → (vp_in v2 12 ∧ (∃ Q3 : Int32 → xIt → xJt → xPt → Prop, xMet l V y_FL_truthOfNone 1 0 0 [xi (I1 7 v2.toNatClampNeg)] xS0 I1 J1 P1 (xPi Q3) ∧ ∀ (z3 : Int32) (I3 : xIt) (J3 : xJt) (P3 : xPt), Q3 z3 I3 J3 P3 → (vp_in v2 12 ∧ G_FL_truthFor l V Q 2 [(0, xq (some 6)), (1, xq v1), (2, xi (v2 + 1))] [] (xu I3 12 v2.toNatClampNeg z3) J3 P3)))))))))) : G_FL_truthFor l V Q 2 [(0, xq (some 6)), (1, xq v1), (2, xi v2)] [] I J P := by
  refine xG_iload_n d_FL_truthFor_2 rfl rfl ?_
  refine xG_aload_n d_FL_truthFor_3 rfl rfl rfl ?_
  refine xG_geti d_FL_truthFor_4 xf_FL_31 rfl s0_6 ?_
  refine xG_icmp_ge (tgt := 52) d_FL_truthFor_7 (by decide) (fun c => ?_) (fun c => ?_)
  · have h := h.1 c
    refine xG_aload_n d_FL_truthFor_52 rfl rfl rfl ?_
    refine xG_geti d_FL_truthFor_53 xf_FL_31 rfl s0_6 ?_
    refine xG_iconst (v := 1) d_FL_truthFor_56 rfl ?_
    refine xG_isub d_FL_truthFor_57 ?_
    refine xG_istore_n (lv' := [(2, xi ((I 6 6) - 1)), (0, xq (some 6)), (1, xq v1)]) d_FL_truthFor_58 rfl (Nat.le_of_ble_eq_true rfl) rfl ?_
    refine xG_pick [1, 2, 0] rfl ?_
    exact h
  · have h := h.2 c
    refine xG_aload_n d_FL_truthFor_10 rfl rfl rfl ?_
    refine xG_getq d_FL_truthFor_11 xf_FL_28 rfl s0_6 ?_
    refine xG_iload_n d_FL_truthFor_14 rfl rfl ?_
    refine xG_aload_n d_FL_truthFor_15 rfl rfl rfl ?_
    refine xG_getq d_FL_truthFor_16 xf_FL_11 rfl s0_6 ?_
    refine xG_iload_n d_FL_truthFor_19 rfl rfl ?_
    refine xG_iald d_FL_truthFor_20 (lp_6_0 hL) s0_7 h.1 ?_
    have h := h.2
    obtain ⟨Q1, hM, h⟩ := h
    refine xG_calls (as := [xi (I 7 v2.toNatClampNeg)]) (rest := [xi v2, xq (P 6 5)]) d_FL_truthFor_21 ys_FL_holdsFilters w2_220 rfl rfl hM ⟨by decide, by decide⟩ (Nat.le_of_ble_eq_true rfl) ⟨Nat.zero_le _, Nat.zero_le _⟩ (fun r S1 I1 J1 P1 hp => ?_)
    obtain ⟨rfl, hL1, z1, rfl, hq⟩ := hp
    have h := h z1 I1 J1 P1 hq
    refine xG_if_eq (tgt := 39) d_FL_truthFor_24 (by decide) (fun c => ?_) (fun c => ?_)
    · have h := h.1 c
      refine xG_aload_n d_FL_truthFor_39 rfl rfl rfl ?_
      refine xG_iload_n d_FL_truthFor_40 rfl rfl ?_
      refine xG_aload_n d_FL_truthFor_41 rfl rfl rfl ?_
      obtain ⟨Q2, hM, h⟩ := h
      refine xG_callv (as := [xi v2, xq v1]) (rest := [xi v2, xq (P 6 5)]) d_FL_truthFor_42 yv_FL_leafTruth w3_5 rfl rfl rfl s0_6 (by decide) rfl hM ⟨by decide, by decide⟩ (Nat.le_of_ble_eq_true rfl) ⟨Nat.zero_le _, Nat.zero_le _⟩ (fun r S2 I2 J2 P2 hp => ?_)
      obtain ⟨rfl, hL2, z2, rfl, hq⟩ := hp
      have h := h z2 I2 J2 P2 hq
      refine xG_iast d_FL_truthFor_45 (lp_6_5 hL) s0_12 h.1 ?_
      have h := h.2
      refine xG_iinc (v := v2 + 1) (lv' := [(2, xi (v2 + 1)), (0, xq (some 6)), (1, xq v1)]) d_FL_truthFor_46 rfl rfl (Nat.le_of_ble_eq_true rfl) rfl ?_
      refine xG_goto (tgt := 2) d_FL_truthFor_49 (by decide) ?_
      refine xG_pick [1, 2, 0] rfl ?_
      exact h
    · have h := h.2 c
      refine xG_aload_n d_FL_truthFor_27 rfl rfl rfl ?_
      refine xG_getq d_FL_truthFor_28 xf_FL_11 rfl s0_6 ?_
      refine xG_iload_n d_FL_truthFor_31 rfl rfl ?_
      refine xG_iald d_FL_truthFor_32 (lp_6_0 hL1) s0_7 h.1 ?_
      have h := h.2
      obtain ⟨Q3, hM, h⟩ := h
      refine xG_calls (as := [xi (I1 7 v2.toNatClampNeg)]) (rest := [xi v2, xq (P 6 5)]) d_FL_truthFor_33 ys_FL_truthOfNone w3_2 rfl rfl hM ⟨by decide, by decide⟩ (Nat.le_of_ble_eq_true rfl) ⟨Nat.zero_le _, Nat.zero_le _⟩ (fun r S3 I3 J3 P3 hp => ?_)
      obtain ⟨rfl, hL3, z3, rfl, hq⟩ := hp
      have h := h z3 I3 J3 P3 hq
      refine xG_goto (tgt := 45) d_FL_truthFor_36 (by decide) ?_
      refine xG_iast d_FL_truthFor_45 (lp_6_5 hL) s0_12 h.1 ?_
      have h := h.2
      refine xG_iinc (v := v2 + 1) (lv' := [(2, xi (v2 + 1)), (0, xq (some 6)), (1, xq v1)]) d_FL_truthFor_46 rfl rfl (Nat.le_of_ble_eq_true rfl) rfl ?_
      refine xG_goto (tgt := 2) d_FL_truthFor_49 (by decide) ?_
      refine xG_pick [1, 2, 0] rfl ?_
      exact h
set_option maxRecDepth 20000 in
theorem b_FL_truthFor_59 {l : Launch} {V : xV} {Q : Int32 → xIt → xJt → xPt → Prop} {I : xIt} {J : xJt} {P : xPt} (hL : xL P) {v1 : Option Nat} {v2 : Int32} (h : ((v2 ≤ 0 → Q (I 12 0) I J P) ∧ (¬ v2 ≤ 0 → (vp_in v2 12 ∧ (((I 8 v2.toNatClampNeg) < 0 → G_FL_truthFor l V Q 59 [(0, xq (some 6)), (1, xq v1), (2, xi (v2 + (-1)))] [] I J P) ∧ (¬ (I 8 v2.toNatClampNeg) < 0 → ((v2 ≤ (I 8 v2.toNatClampNeg) → G_FL_truthFor l V Q 59 [(0, xq (some 6)), (1, xq v1), (2, xi (v2 + (-1)))] [] I J P) ∧ (¬ v2 ≤ (I 8 v2.toNatClampNeg) → (vp_in (I 8 v2.toNatClampNeg) 12 ∧ (vp_in (I 8 v2.toNatClampNeg) 12 ∧ (vp_in v2 12 ∧ (∃ Q1 : Int32 → xIt → xJt → xPt → Prop, xMet l V y_FL_joined 2 0 0 [xi (I 7 ((I 8 v2.toNatClampNeg).toNatClampNeg)), xi (I 12 ((I 8 v2.toNatClampNeg).toNatClampNeg)), xi (I 12 v2.toNatClampNeg)] xS0 I J P (xPi Q1) ∧ ∀ (z1 : Int32) (I1 : xIt) (J1 : xJt) (P1 : xPt), Q1 z1 I1 J1 P1 → (vp_in (I 8 v2.toNatClampNeg) 12 ∧ G_FL_truthFor l V Q 59 [(0, xq (some 6)), (1, xq v1), (2, xi (v2 + (-1)))] [] (xu I1 12 ((I 8 v2.toNatClampNeg).toNatClampNeg) z1) J1 P1))))))))))))) : G_FL_truthFor l V Q 59 [(0, xq (some 6)), (1, xq v1), (2, xi v2)] [] I J P := by
  refine xG_iload_n d_FL_truthFor_59 rfl rfl ?_
  refine xG_if_le (tgt := 112) d_FL_truthFor_60 (by decide) (fun c => ?_) (fun c => ?_)
  · have h := h.1 c
    refine xG_aload_n d_FL_truthFor_112 rfl rfl rfl ?_
    refine xG_getq d_FL_truthFor_113 xf_FL_28 rfl s0_6 ?_
    refine xG_iconst (v := 0) d_FL_truthFor_116 rfl ?_
    refine xG_iald d_FL_truthFor_117 (lp_6_5 hL) s0_12 (x_vp (by decide)) ?_
    refine xG_topi (x' := I 12 0) (by first | rfl | exact xu_at | simp [xu]) ?_
    exact xG_ireturn d_FL_truthFor_118 rfl rfl ⟨rfl, hL, _, rfl, h⟩
  · have h := h.2 c
    refine xG_aload_n d_FL_truthFor_63 rfl rfl rfl ?_
    refine xG_getq d_FL_truthFor_64 xf_FL_15 rfl s0_6 ?_
    refine xG_iload_n d_FL_truthFor_67 rfl rfl ?_
    refine xG_iald d_FL_truthFor_68 (lp_6_1 hL) s0_8 h.1 ?_
    have h := h.2
    refine xG_istore_n (lv' := [(3, xi (I 8 v2.toNatClampNeg)), (0, xq (some 6)), (1, xq v1), (2, xi v2)]) d_FL_truthFor_69 rfl (Nat.le_of_ble_eq_true rfl) rfl ?_
    refine xG_iload_n d_FL_truthFor_70 rfl rfl ?_
    refine xG_if_lt (tgt := 106) d_FL_truthFor_71 (by decide) (fun c => ?_) (fun c => ?_)
    · have h := h.1 c
      refine xG_iinc (v := v2 + (-1)) (lv' := [(2, xi (v2 + (-1))), (3, xi (I 8 v2.toNatClampNeg)), (0, xq (some 6)), (1, xq v1)]) d_FL_truthFor_106 rfl rfl (Nat.le_of_ble_eq_true rfl) rfl ?_
      refine xG_goto (tgt := 59) d_FL_truthFor_109 (by decide) ?_
      refine xG_pick [2, 3, 0] rfl ?_
      exact h
    · have h := h.2 c
      refine xG_iload_n d_FL_truthFor_74 rfl rfl ?_
      refine xG_iload_n d_FL_truthFor_75 rfl rfl ?_
      refine xG_icmp_ge (tgt := 106) d_FL_truthFor_76 (by decide) (fun c => ?_) (fun c => ?_)
      · have h := h.1 c
        refine xG_iinc (v := v2 + (-1)) (lv' := [(2, xi (v2 + (-1))), (3, xi (I 8 v2.toNatClampNeg)), (0, xq (some 6)), (1, xq v1)]) d_FL_truthFor_106 rfl rfl (Nat.le_of_ble_eq_true rfl) rfl ?_
        refine xG_goto (tgt := 59) d_FL_truthFor_109 (by decide) ?_
        refine xG_pick [2, 3, 0] rfl ?_
        exact h
      · have h := h.2 c
        refine xG_aload_n d_FL_truthFor_79 rfl rfl rfl ?_
        refine xG_getq d_FL_truthFor_80 xf_FL_28 rfl s0_6 ?_
        refine xG_iload_n d_FL_truthFor_83 rfl rfl ?_
        refine xG_aload_n d_FL_truthFor_84 rfl rfl rfl ?_
        refine xG_getq d_FL_truthFor_85 xf_FL_11 rfl s0_6 ?_
        refine xG_iload_n d_FL_truthFor_88 rfl rfl ?_
        refine xG_iald d_FL_truthFor_89 (lp_6_0 hL) s0_7 h.1 ?_
        have h := h.2
        refine xG_topi (x' := I 7 ((I 8 v2.toNatClampNeg).toNatClampNeg)) (by first | rfl | exact xu_at | simp [xu]) ?_
        refine xG_aload_n d_FL_truthFor_90 rfl rfl rfl ?_
        refine xG_getq d_FL_truthFor_91 xf_FL_28 rfl s0_6 ?_
        refine xG_iload_n d_FL_truthFor_94 rfl rfl ?_
        refine xG_iald d_FL_truthFor_95 (lp_6_5 hL) s0_12 h.1 ?_
        have h := h.2
        refine xG_topi (x' := I 12 ((I 8 v2.toNatClampNeg).toNatClampNeg)) (by first | rfl | exact xu_at | simp [xu]) ?_
        refine xG_aload_n d_FL_truthFor_96 rfl rfl rfl ?_
        refine xG_getq d_FL_truthFor_97 xf_FL_28 rfl s0_6 ?_
        refine xG_iload_n d_FL_truthFor_100 rfl rfl ?_
        refine xG_iald d_FL_truthFor_101 (lp_6_5 hL) s0_12 h.1 ?_
        have h := h.2
        obtain ⟨Q1, hM, h⟩ := h
        refine xG_calls (as := [xi (I 7 ((I 8 v2.toNatClampNeg).toNatClampNeg)), xi (I 12 ((I 8 v2.toNatClampNeg).toNatClampNeg)), xi (I 12 v2.toNatClampNeg)]) (rest := [xi (I 8 v2.toNatClampNeg), xq (P 6 5)]) d_FL_truthFor_102 ys_FL_joined w3_16 rfl rfl hM ⟨by decide, by decide⟩ (Nat.le_of_ble_eq_true rfl) ⟨Nat.zero_le _, Nat.zero_le _⟩ (fun r S1 I1 J1 P1 hp => ?_)
        obtain ⟨rfl, hL1, z1, rfl, hq⟩ := hp
        have h := h z1 I1 J1 P1 hq
        refine xG_iast d_FL_truthFor_105 (lp_6_5 hL) s0_12 h.1 ?_
        have h := h.2
        refine xG_iinc (v := v2 + (-1)) (lv' := [(2, xi (v2 + (-1))), (3, xi (I 8 v2.toNatClampNeg)), (0, xq (some 6)), (1, xq v1)]) d_FL_truthFor_106 rfl rfl (Nat.le_of_ble_eq_true rfl) rfl ?_
        refine xG_goto (tgt := 59) d_FL_truthFor_109 (by decide) ?_
        refine xG_pick [2, 3, 0] rfl ?_
        exact h
theorem e_FL_truthFor {l : Launch} {V : xV} {Q : Int32 → xIt → xJt → xPt → Prop} {I : xIt} {J : xJt} {P : xPt} {v1 : Option Nat} (h : G_FL_truthFor l V Q 0 [(0, xq (some 6)), (1, xq v1)] [] I J P) : xMet l V y_FL_truthFor 4 0 0 [xq (some 6), xq v1] xS0 I J P (xPi Q) := xMet_of (by decide) (Nat.le_of_ble_eq_true rfl) h

abbrev G_FL_holdsFilters (l : Launch) (V : xV) (Q : Int32 → xIt → xJt → xPt → Prop) (pc : Nat) (lv : List (Nat × xX)) (st : List xX) (I : xIt) (J : xJt) (P : xPt) : Prop := xG l V y_FL_holdsFilters (xR 1 0 0) (xFn V y_FL_holdsFilters (xR 1 0 0) (xPi Q)) pc lv st xS0 I J P (0, 0)
set_option maxRecDepth 20000 in
theorem b_FL_holdsFilters_0 {l : Launch} {V : xV} {Q : Int32 → xIt → xJt → xPt → Prop} {I : xIt} {J : xJt} {P : xPt} (hL : xL P) {v0 : Int32} (h : ((v0 = 160 → Q 1 I J P) ∧ (¬ v0 = 160 → ((v0 = 161 → Q 1 I J P) ∧ (¬ v0 = 161 → ((¬ v0 = 162 → Q 0 I J P) ∧ (v0 = 162 → Q 1 I J P))))))) : G_FL_holdsFilters l V Q 0 [(0, xi v0)] [] I J P := by
  refine xG_iload_n d_FL_holdsFilters_0 rfl rfl ?_
  refine xG_sipush (v := 160) d_FL_holdsFilters_1 rfl ?_
  refine xG_icmp_eq (tgt := 21) d_FL_holdsFilters_4 (by decide) (fun c => ?_) (fun c => ?_)
  · have h := h.1 c
    refine xG_iconst (v := 1) d_FL_holdsFilters_21 rfl ?_
    refine xG_goto (tgt := 26) d_FL_holdsFilters_22 (by decide) ?_
    exact xG_ireturn d_FL_holdsFilters_26 rfl rfl ⟨rfl, hL, _, rfl, h⟩
  · have h := h.2 c
    refine xG_iload_n d_FL_holdsFilters_7 rfl rfl ?_
    refine xG_sipush (v := 161) d_FL_holdsFilters_8 rfl ?_
    refine xG_icmp_eq (tgt := 21) d_FL_holdsFilters_11 (by decide) (fun c => ?_) (fun c => ?_)
    · have h := h.1 c
      refine xG_iconst (v := 1) d_FL_holdsFilters_21 rfl ?_
      refine xG_goto (tgt := 26) d_FL_holdsFilters_22 (by decide) ?_
      exact xG_ireturn d_FL_holdsFilters_26 rfl rfl ⟨rfl, hL, _, rfl, h⟩
    · have h := h.2 c
      refine xG_iload_n d_FL_holdsFilters_14 rfl rfl ?_
      refine xG_sipush (v := 162) d_FL_holdsFilters_15 rfl ?_
      refine xG_icmp_ne (tgt := 25) d_FL_holdsFilters_18 (by decide) (fun c => ?_) (fun c => ?_)
      · have h := h.1 c
        refine xG_iconst (v := 0) d_FL_holdsFilters_25 rfl ?_
        exact xG_ireturn d_FL_holdsFilters_26 rfl rfl ⟨rfl, hL, _, rfl, h⟩
      · have h := h.2 c
        refine xG_iconst (v := 1) d_FL_holdsFilters_21 rfl ?_
        refine xG_goto (tgt := 26) d_FL_holdsFilters_22 (by decide) ?_
        exact xG_ireturn d_FL_holdsFilters_26 rfl rfl ⟨rfl, hL, _, rfl, h⟩
theorem e_FL_holdsFilters {l : Launch} {V : xV} {Q : Int32 → xIt → xJt → xPt → Prop} {I : xIt} {J : xJt} {P : xPt} {v0 : Int32} (h : G_FL_holdsFilters l V Q 0 [(0, xi v0)] [] I J P) : xMet l V y_FL_holdsFilters 1 0 0 [xi v0] xS0 I J P (xPi Q) := xMet_of (by decide) (Nat.le_of_ble_eq_true rfl) h

abbrev G_FL_truthOfNone (l : Launch) (V : xV) (Q : Int32 → xIt → xJt → xPt → Prop) (pc : Nat) (lv : List (Nat × xX)) (st : List xX) (I : xIt) (J : xJt) (P : xPt) : Prop := xG l V y_FL_truthOfNone (xR 1 0 0) (xFn V y_FL_truthOfNone (xR 1 0 0) (xPi Q)) pc lv st xS0 I J P (0, 0)
set_option maxRecDepth 20000 in
theorem b_FL_truthOfNone_0 {l : Launch} {V : xV} {Q : Int32 → xIt → xJt → xPt → Prop} {I : xIt} {J : xJt} {P : xPt} (hL : xL P) {v0 : Int32} (h : ((¬ v0 = 160 → Q 0 I J P) ∧ (v0 = 160 → Q 2 I J P))) : G_FL_truthOfNone l V Q 0 [(0, xi v0)] [] I J P := by
  refine xG_iload_n d_FL_truthOfNone_0 rfl rfl ?_
  refine xG_sipush (v := 160) d_FL_truthOfNone_1 rfl ?_
  refine xG_icmp_ne (tgt := 11) d_FL_truthOfNone_4 (by decide) (fun c => ?_) (fun c => ?_)
  · have h := h.1 c
    refine xG_iconst (v := 0) d_FL_truthOfNone_11 rfl ?_
    exact xG_ireturn d_FL_truthOfNone_12 rfl rfl ⟨rfl, hL, _, rfl, h⟩
  · have h := h.2 c
    refine xG_iconst (v := 2) d_FL_truthOfNone_7 rfl ?_
    refine xG_goto (tgt := 12) d_FL_truthOfNone_8 (by decide) ?_
    exact xG_ireturn d_FL_truthOfNone_12 rfl rfl ⟨rfl, hL, _, rfl, h⟩
theorem e_FL_truthOfNone {l : Launch} {V : xV} {Q : Int32 → xIt → xJt → xPt → Prop} {I : xIt} {J : xJt} {P : xPt} {v0 : Int32} (h : G_FL_truthOfNone l V Q 0 [(0, xi v0)] [] I J P) : xMet l V y_FL_truthOfNone 1 0 0 [xi v0] xS0 I J P (xPi Q) := xMet_of (by decide) (Nat.le_of_ble_eq_true rfl) h

abbrev G_FL_joined (l : Launch) (V : xV) (Q : Int32 → xIt → xJt → xPt → Prop) (pc : Nat) (lv : List (Nat × xX)) (st : List xX) (I : xIt) (J : xJt) (P : xPt) : Prop := xG l V y_FL_joined (xR 2 0 0) (xFn V y_FL_joined (xR 2 0 0) (xPi Q)) pc lv st xS0 I J P (0, 0)
set_option maxRecDepth 20000 in
theorem b_FL_joined_0 {l : Launch} {V : xV} {Q : Int32 → xIt → xJt → xPt → Prop} {I : xIt} {J : xJt} {P : xPt} (hL : xL P) {v0 : Int32} {v1 : Int32} {v2 : Int32} (h : ((¬ v0 = 162 → ((¬ v0 = 160 → Q (if v1 < v2 then v2 else v1) I J P) ∧ (v0 = 160 → Q (if v2 < v1 then v2 else v1) I J P))) ∧ (v0 = 162 → Q (2 - v2) I J P))) : G_FL_joined l V Q 0 [(0, xi v0), (1, xi v1), (2, xi v2)] [] I J P := by
  refine xG_iload_n d_FL_joined_0 rfl rfl ?_
  refine xG_sipush (v := 162) d_FL_joined_1 rfl ?_
  refine xG_icmp_ne (tgt := 11) d_FL_joined_4 (by decide) (fun c => ?_) (fun c => ?_)
  · have h := h.1 c
    refine xG_iload_n d_FL_joined_11 rfl rfl ?_
    refine xG_sipush (v := 160) d_FL_joined_12 rfl ?_
    refine xG_icmp_ne (tgt := 26) d_FL_joined_15 (by decide) (fun c => ?_) (fun c => ?_)
    · have h := h.1 c
      refine xG_iload_n d_FL_joined_26 rfl rfl ?_
      refine xG_iload_n d_FL_joined_27 rfl rfl ?_
      refine xG_max d_FL_joined_28 w3_22 w3_23 w1_13 w3_24 ⟨by decide, by decide⟩ (Nat.le_of_ble_eq_true rfl) ?_
      exact xG_ireturn d_FL_joined_31 rfl rfl ⟨rfl, hL, _, rfl, h⟩
    · have h := h.2 c
      refine xG_iload_n d_FL_joined_18 rfl rfl ?_
      refine xG_iload_n d_FL_joined_19 rfl rfl ?_
      refine xG_min d_FL_joined_20 w3_19 w3_20 w1_13 w3_21 ⟨by decide, by decide⟩ (Nat.le_of_ble_eq_true rfl) ?_
      refine xG_goto (tgt := 31) d_FL_joined_23 (by decide) ?_
      exact xG_ireturn d_FL_joined_31 rfl rfl ⟨rfl, hL, _, rfl, h⟩
  · have h := h.2 c
    refine xG_iconst (v := 2) d_FL_joined_7 rfl ?_
    refine xG_iload_n d_FL_joined_8 rfl rfl ?_
    refine xG_isub d_FL_joined_9 ?_
    exact xG_ireturn d_FL_joined_10 rfl rfl ⟨rfl, hL, _, rfl, h⟩
theorem e_FL_joined {l : Launch} {V : xV} {Q : Int32 → xIt → xJt → xPt → Prop} {I : xIt} {J : xJt} {P : xPt} {v0 : Int32} {v1 : Int32} {v2 : Int32} (h : G_FL_joined l V Q 0 [(0, xi v0), (1, xi v1), (2, xi v2)] [] I J P) : xMet l V y_FL_joined 2 0 0 [xi v0, xi v1, xi v2] xS0 I J P (xPi Q) := xMet_of (by decide) (Nat.le_of_ble_eq_true rfl) h

abbrev G_FL_leafTruth (l : Launch) (V : xV) (Q : Int32 → xIt → xJt → xPt → Prop) (pc : Nat) (lv : List (Nat × xX)) (st : List xX) (I : xIt) (J : xJt) (P : xPt) : Prop := xG l V y_FL_leafTruth (xR 3 0 0) (xFn V y_FL_leafTruth (xR 3 0 0) (xPi Q)) pc lv st xS0 I J P (0, 0)
set_option maxRecDepth 20000 in
theorem b_FL_leafTruth_0 {l : Launch} {V : xV} {Q : Int32 → xIt → xJt → xPt → Prop} {I : xIt} {J : xJt} {P : xPt} (hL : xL P) {v1 : Int32} {v2 : Option Nat} (h : (vp_in v1 12 ∧ (((I 10 v1.toNatClampNeg) < 0 → Q 1 I J P) ∧ (¬ (I 10 v1.toNatClampNeg) < 0 → (((I 10 v1.toNatClampNeg) < 5 → (∃ a1 : Nat, v2 = some a1 ∧ xS0[a1]? = some (5, 0) ∧ (vp_in (I 10 v1.toNatClampNeg) 5 ∧ (vp_in v1 12 ∧ ((¬ (I 7 v1.toNatClampNeg) = 135 → (vp_in v1 12 ∧ ((¬ (lg_cmp (J 11 v1.toNatClampNeg) (-1)) = 0 → (vp_in v1 12 ∧ ((¬ (I 7 v1.toNatClampNeg) = 163 → ((¬ (I 10 v1.toNatClampNeg) = 3 → Q 1 I J P) ∧ ((I 10 v1.toNatClampNeg) = 3 → (vp_in v1 12 ∧ (vp_in v1 12 ∧ (∃ Q2 : Int32 → xIt → xJt → xPt → Prop, xMet l V y_FL_orderTruth 2 0 0 [xi (I 7 v1.toNatClampNeg), xj (J 11 v1.toNatClampNeg), xq (P (a1 + 1) ((I 10 v1.toNatClampNeg).toNatClampNeg))] xS0 I J P (xPi Q2) ∧ ∀ (z2 : Int32) (I2 : xIt) (J2 : xJt) (P2 : xPt), Q2 z2 I2 J2 P2 → Q z2 I2 J2 P2)))))) ∧ ((I 7 v1.toNatClampNeg) = 163 → (vp_in v1 12 ∧ (∃ a3 : Nat, P (a1 + 1) ((I 10 v1.toNatClampNeg).toNatClampNeg) = some a3 ∧ xS0[a3]? = some (6, 0) ∧ (∃ Q4 : Int32 → xIt → xJt → xPt → Prop, xMet l V y_VR_has 1 0 0 [xq (some a3), xj (J 11 v1.toNatClampNeg)] xS0 I J P (xPi Q4) ∧ ∀ (z4 : Int32) (I4 : xIt) (J4 : xJt) (P4 : xPt), Q4 z4 I4 J4 P4 → ((z4 = 0 → Q 0 I4 J4 P4) ∧ (¬ z4 = 0 → Q 2 I4 J4 P4))))))))) ∧ ((lg_cmp (J 11 v1.toNatClampNeg) (-1)) = 0 → Q 1 I J P)))) ∧ ((I 7 v1.toNatClampNeg) = 135 → (∃ a5 : Nat, P (a1 + 1) ((I 10 v1.toNatClampNeg).toNatClampNeg) = some a5 ∧ xS0[a5]? = some (6, 0) ∧ (((I a5 2) ≤ 0 → Q 0 I J P) ∧ (¬ (I a5 2) ≤ 0 → Q 2 I J P))))))))) ∧ (¬ (I 10 v1.toNatClampNeg) < 5 → Q 1 I J P)))))) : G_FL_leafTruth l V Q 0 [(0, xq (some 6)), (1, xi v1), (2, xq v2)] [] I J P := by
  refine xG_aload_n d_FL_leafTruth_0 rfl rfl rfl ?_
  refine xG_getq d_FL_leafTruth_1 xf_FL_21 rfl s0_6 ?_
  refine xG_iload_n d_FL_leafTruth_4 rfl rfl ?_
  refine xG_iald d_FL_leafTruth_5 (lp_6_3 hL) s0_10 h.1 ?_
  have h := h.2
  refine xG_istore_n (lv' := [(3, xi (I 10 v1.toNatClampNeg)), (0, xq (some 6)), (1, xi v1), (2, xq v2)]) d_FL_leafTruth_6 rfl (Nat.le_of_ble_eq_true rfl) rfl ?_
  refine xG_iload_n d_FL_leafTruth_7 rfl rfl ?_
  refine xG_if_lt (tgt := 16) d_FL_leafTruth_8 (by decide) (fun c => ?_) (fun c => ?_)
  · have h := h.1 c
    refine xG_iconst (v := 1) d_FL_leafTruth_16 rfl ?_
    exact xG_ireturn d_FL_leafTruth_17 rfl rfl ⟨rfl, hL, _, rfl, h⟩
  · have h := h.2 c
    refine xG_iload_n d_FL_leafTruth_11 rfl rfl ?_
    refine xG_iconst (v := 5) d_FL_leafTruth_12 rfl ?_
    refine xG_icmp_lt (tgt := 18) d_FL_leafTruth_13 (by decide) (fun c => ?_) (fun c => ?_)
    · have h := h.1 c
      refine xG_aload_n d_FL_leafTruth_18 rfl rfl rfl ?_
      obtain ⟨a1, e1, s1, h⟩ := h
      refine xG_getq d_FL_leafTruth_19 xf_FL_79 e1 s1 ?_
      refine xG_iload_n d_FL_leafTruth_22 rfl rfl ?_
      refine xG_aald (t := 0) d_FL_leafTruth_23 (lo_5_0 hL s1) (so_5_0 s1) rfl h.1 ?_
      have h := h.2
      refine xG_topq (x' := P (a1 + 1) ((I 10 v1.toNatClampNeg).toNatClampNeg)) (by first | rfl | exact xu_at | simp [xu]) ?_
      refine xG_astore (lv' := [(4, xq (P (a1 + 1) ((I 10 v1.toNatClampNeg).toNatClampNeg))), (3, xi (I 10 v1.toNatClampNeg)), (0, xq (some 6)), (1, xi v1), (2, xq v2)]) d_FL_leafTruth_24 (Nat.le_of_ble_eq_true rfl) rfl rfl ?_
      refine xG_aload_n d_FL_leafTruth_26 rfl rfl rfl ?_
      refine xG_getq d_FL_leafTruth_27 xf_FL_11 rfl s0_6 ?_
      refine xG_iload_n d_FL_leafTruth_30 rfl rfl ?_
      refine xG_iald d_FL_leafTruth_31 (lp_6_0 hL) s0_7 h.1 ?_
      have h := h.2
      refine xG_sipush (v := 135) d_FL_leafTruth_32 rfl ?_
      refine xG_icmp_ne (tgt := 52) d_FL_leafTruth_35 (by decide) (fun c => ?_) (fun c => ?_)
      · have h := h.1 c
        refine xG_aload_n d_FL_leafTruth_52 rfl rfl rfl ?_
        refine xG_getq d_FL_leafTruth_53 xf_FL_24 rfl s0_6 ?_
        refine xG_iload_n d_FL_leafTruth_56 rfl rfl ?_
        refine xG_lald d_FL_leafTruth_57 (lp_6_4 hL) s0_11 h.1 ?_
        have h := h.2
        refine xG_ldc2 (v := (-1)) d_FL_leafTruth_58 w2_219 ?_
        refine xG_lcmp d_FL_leafTruth_61 ?_
        refine xG_if_ne (tgt := 67) d_FL_leafTruth_62 (by decide) (fun c => ?_) (fun c => ?_)
        · have h := h.1 c
          refine xG_aload_n d_FL_leafTruth_67 rfl rfl rfl ?_
          refine xG_getq d_FL_leafTruth_68 xf_FL_11 rfl s0_6 ?_
          refine xG_iload_n d_FL_leafTruth_71 rfl rfl ?_
          refine xG_iald d_FL_leafTruth_72 (lp_6_0 hL) s0_7 h.1 ?_
          have h := h.2
          refine xG_sipush (v := 163) d_FL_leafTruth_73 rfl ?_
          refine xG_icmp_ne (tgt := 99) d_FL_leafTruth_76 (by decide) (fun c => ?_) (fun c => ?_)
          · have h := h.1 c
            refine xG_iload_n d_FL_leafTruth_99 rfl rfl ?_
            refine xG_iconst (v := 3) d_FL_leafTruth_100 rfl ?_
            refine xG_icmp_ne (tgt := 124) d_FL_leafTruth_101 (by decide) (fun c => ?_) (fun c => ?_)
            · have h := h.1 c
              refine xG_iconst (v := 1) d_FL_leafTruth_124 rfl ?_
              exact xG_ireturn d_FL_leafTruth_125 rfl rfl ⟨rfl, hL, _, rfl, h⟩
            · have h := h.2 c
              refine xG_aload_n d_FL_leafTruth_104 rfl rfl rfl ?_
              refine xG_getq d_FL_leafTruth_105 xf_FL_11 rfl s0_6 ?_
              refine xG_iload_n d_FL_leafTruth_108 rfl rfl ?_
              refine xG_iald d_FL_leafTruth_109 (lp_6_0 hL) s0_7 h.1 ?_
              have h := h.2
              refine xG_aload_n d_FL_leafTruth_110 rfl rfl rfl ?_
              refine xG_getq d_FL_leafTruth_111 xf_FL_24 rfl s0_6 ?_
              refine xG_iload_n d_FL_leafTruth_114 rfl rfl ?_
              refine xG_lald d_FL_leafTruth_115 (lp_6_4 hL) s0_11 h.1 ?_
              have h := h.2
              refine xG_aload d_FL_leafTruth_116 rfl rfl ?_
              obtain ⟨Q2, hM, h⟩ := h
              refine xG_calls (as := [xi (I 7 v1.toNatClampNeg), xj (J 11 v1.toNatClampNeg), xq (P (a1 + 1) ((I 10 v1.toNatClampNeg).toNatClampNeg))]) (rest := []) d_FL_leafTruth_118 ys_FL_orderTruth w3_10 rfl rfl hM ⟨by decide, by decide⟩ (Nat.le_of_ble_eq_true rfl) ⟨Nat.zero_le _, Nat.zero_le _⟩ (fun r S2 I2 J2 P2 hp => ?_)
              obtain ⟨rfl, hL2, z2, rfl, hq⟩ := hp
              have h := h z2 I2 J2 P2 hq
              refine xG_goto (tgt := 125) d_FL_leafTruth_121 (by decide) ?_
              exact xG_ireturn d_FL_leafTruth_125 rfl rfl ⟨rfl, hL2, _, rfl, h⟩
          · have h := h.2 c
            refine xG_aload d_FL_leafTruth_79 rfl rfl ?_
            refine xG_aload_n d_FL_leafTruth_81 rfl rfl rfl ?_
            refine xG_getq d_FL_leafTruth_82 xf_FL_24 rfl s0_6 ?_
            refine xG_iload_n d_FL_leafTruth_85 rfl rfl ?_
            refine xG_lald d_FL_leafTruth_86 (lp_6_4 hL) s0_11 h.1 ?_
            have h := h.2
            obtain ⟨a3, e3, s3, h⟩ := h
            obtain ⟨Q4, hM, h⟩ := h
            refine xG_callv (as := [xj (J 11 v1.toNatClampNeg)]) (rest := []) d_FL_leafTruth_87 yv_VR_has w3_9 rfl e3 rfl s3 (by decide) rfl hM ⟨by decide, by decide⟩ (Nat.le_of_ble_eq_true rfl) ⟨Nat.zero_le _, Nat.zero_le _⟩ (fun r S4 I4 J4 P4 hp => ?_)
            obtain ⟨rfl, hL4, z4, rfl, hq⟩ := hp
            have h := h z4 I4 J4 P4 hq
            refine xG_if_eq (tgt := 97) d_FL_leafTruth_90 (by decide) (fun c => ?_) (fun c => ?_)
            · have h := h.1 c
              refine xG_iconst (v := 0) d_FL_leafTruth_97 rfl ?_
              exact xG_ireturn d_FL_leafTruth_98 rfl rfl ⟨rfl, hL4, _, rfl, h⟩
            · have h := h.2 c
              refine xG_iconst (v := 2) d_FL_leafTruth_93 rfl ?_
              refine xG_goto (tgt := 98) d_FL_leafTruth_94 (by decide) ?_
              exact xG_ireturn d_FL_leafTruth_98 rfl rfl ⟨rfl, hL4, _, rfl, h⟩
        · have h := h.2 c
          refine xG_iconst (v := 1) d_FL_leafTruth_65 rfl ?_
          exact xG_ireturn d_FL_leafTruth_66 rfl rfl ⟨rfl, hL, _, rfl, h⟩
      · have h := h.2 c
        refine xG_aload d_FL_leafTruth_38 rfl rfl ?_
        obtain ⟨a5, e5, s5, h⟩ := h
        refine xG_geti d_FL_leafTruth_40 xf_FL_85 e5 s5 ?_
        refine xG_if_le (tgt := 50) d_FL_leafTruth_43 (by decide) (fun c => ?_) (fun c => ?_)
        · have h := h.1 c
          refine xG_iconst (v := 0) d_FL_leafTruth_50 rfl ?_
          exact xG_ireturn d_FL_leafTruth_51 rfl rfl ⟨rfl, hL, _, rfl, h⟩
        · have h := h.2 c
          refine xG_iconst (v := 2) d_FL_leafTruth_46 rfl ?_
          refine xG_goto (tgt := 51) d_FL_leafTruth_47 (by decide) ?_
          exact xG_ireturn d_FL_leafTruth_51 rfl rfl ⟨rfl, hL, _, rfl, h⟩
    · have h := h.2 c
      refine xG_iconst (v := 1) d_FL_leafTruth_16 rfl ?_
      exact xG_ireturn d_FL_leafTruth_17 rfl rfl ⟨rfl, hL, _, rfl, h⟩
theorem e_FL_leafTruth {l : Launch} {V : xV} {Q : Int32 → xIt → xJt → xPt → Prop} {I : xIt} {J : xJt} {P : xPt} {v1 : Int32} {v2 : Option Nat} (h : G_FL_leafTruth l V Q 0 [(0, xq (some 6)), (1, xi v1), (2, xq v2)] [] I J P) : xMet l V y_FL_leafTruth 3 0 0 [xq (some 6), xi v1, xq v2] xS0 I J P (xPi Q) := xMet_of (by decide) (Nat.le_of_ble_eq_true rfl) h

abbrev G_FL_orderTruth (l : Launch) (V : xV) (Q : Int32 → xIt → xJt → xPt → Prop) (pc : Nat) (lv : List (Nat × xX)) (st : List xX) (I : xIt) (J : xJt) (P : xPt) : Prop := xG l V y_FL_orderTruth (xR 2 0 0) (xFn V y_FL_orderTruth (xR 2 0 0) (xPi Q)) pc lv st xS0 I J P (0, 0)
set_option maxRecDepth 20000 in
theorem b_FL_orderTruth_0 {l : Launch} {V : xV} {Q : Int32 → xIt → xJt → xPt → Prop} {I : xIt} {J : xJt} {P : xPt} (hL : xL P) {v0 : Int32} {v1 : Int64} {v3 : Option Nat} (h : (∃ Q1 : Int32 → xIt → xJt → xPt → Prop, xMet l V y_PK_numberOf 1 0 0 [xj v1] xS0 I J P (xPi Q1) ∧ ∀ (z1 : Int32) (I1 : xIt) (J1 : xJt) (P1 : xPt), Q1 z1 I1 J1 P1 → G_FL_orderTruth l V Q 9 [(0, xi v0), (1, xj v1), (3, xq v3), (4, xi z1), (5, xi 0)] [] I1 J1 P1)) : G_FL_orderTruth l V Q 0 [(0, xi v0), (1, xj v1), (3, xq v3)] [] I J P := by
  refine xG_lload_n d_FL_orderTruth_0 rfl rfl ?_
  obtain ⟨Q1, hM, h⟩ := h
  refine xG_calls (as := [xj v1]) (rest := []) d_FL_orderTruth_1 ys_PK_numberOf w3_13 rfl rfl hM ⟨by decide, by decide⟩ (Nat.le_of_ble_eq_true rfl) ⟨Nat.zero_le _, Nat.zero_le _⟩ (fun r S1 I1 J1 P1 hp => ?_)
  obtain ⟨rfl, hL1, z1, rfl, hq⟩ := hp
  have h := h z1 I1 J1 P1 hq
  refine xG_istore (lv' := [(4, xi z1), (0, xi v0), (1, xj v1), (3, xq v3)]) d_FL_orderTruth_4 (Nat.le_of_ble_eq_true rfl) rfl ?_
  refine xG_iconst (v := 0) d_FL_orderTruth_6 rfl ?_
  refine xG_istore (lv' := [(5, xi 0), (4, xi z1), (0, xi v0), (1, xj v1), (3, xq v3)]) d_FL_orderTruth_7 (Nat.le_of_ble_eq_true rfl) rfl ?_
  refine xG_pick [2, 3, 4, 1, 0] rfl ?_
  exact h
set_option maxRecDepth 20000 in
theorem b_FL_orderTruth_9 {l : Launch} {V : xV} {Q : Int32 → xIt → xJt → xPt → Prop} {I : xIt} {J : xJt} {P : xPt} (hL : xL P) {v0 : Int32} {v1 : Int64} {v3 : Option Nat} {v4 : Int32} {v5 : Int32} (h : (∃ a1 : Nat, v3 = some a1 ∧ xS0[a1]? = some (6, 0) ∧ (((I a1 2) ≤ v5 → Q 0 I J P) ∧ (¬ (I a1 2) ≤ v5 → (vp_in v5 (xLn (a1 + 2)) ∧ (∃ Q2 : Int32 → xIt → xJt → xPt → Prop, xMet l V y_PK_numberOf 1 0 0 [xj (J (a1 + 2) v5.toNatClampNeg)] xS0 I J P (xPi Q2) ∧ ∀ (z2 : Int32) (I2 : xIt) (J2 : xJt) (P2 : xPt), Q2 z2 I2 J2 P2 → ((¬ v0 = 165 → ((v4 < z2 → G_FL_orderTruth l V Q 9 [(0, xi v0), (1, xj v1), (3, xq v3), (4, xi v4), (5, xi (v5 + 1))] [] I2 J2 P2) ∧ (¬ v4 < z2 → Q 2 I2 J2 P2))) ∧ (v0 = 165 → ((z2 < v4 → G_FL_orderTruth l V Q 9 [(0, xi v0), (1, xj v1), (3, xq v3), (4, xi v4), (5, xi (v5 + 1))] [] I2 J2 P2) ∧ (¬ z2 < v4 → Q 2 I2 J2 P2)))))))))) : G_FL_orderTruth l V Q 9 [(0, xi v0), (1, xj v1), (3, xq v3), (4, xi v4), (5, xi v5)] [] I J P := by
  refine xG_iload d_FL_orderTruth_9 rfl ?_
  refine xG_aload_n d_FL_orderTruth_11 rfl rfl rfl ?_
  obtain ⟨a1, e1, s1, h⟩ := h
  refine xG_geti d_FL_orderTruth_12 xf_FL_85 e1 s1 ?_
  refine xG_icmp_ge (tgt := 62) d_FL_orderTruth_15 (by decide) (fun c => ?_) (fun c => ?_)
  · have h := h.1 c
    refine xG_iconst (v := 0) d_FL_orderTruth_62 rfl ?_
    exact xG_ireturn d_FL_orderTruth_63 rfl rfl ⟨rfl, hL, _, rfl, h⟩
  · have h := h.2 c
    refine xG_aload_n d_FL_orderTruth_18 rfl rfl rfl ?_
    refine xG_getq d_FL_orderTruth_19 xf_FL_102 e1 s1 ?_
    refine xG_iload d_FL_orderTruth_22 rfl ?_
    refine xG_lald d_FL_orderTruth_24 (lo_6_1 hL s1) (so_6_1 s1) h.1 ?_
    have h := h.2
    obtain ⟨Q2, hM, h⟩ := h
    refine xG_calls (as := [xj (J (a1 + 2) v5.toNatClampNeg)]) (rest := []) d_FL_orderTruth_25 ys_PK_numberOf w3_13 rfl rfl hM ⟨by decide, by decide⟩ (Nat.le_of_ble_eq_true rfl) ⟨Nat.zero_le _, Nat.zero_le _⟩ (fun r S2 I2 J2 P2 hp => ?_)
    obtain ⟨rfl, hL2, z2, rfl, hq⟩ := hp
    have h := h z2 I2 J2 P2 hq
    refine xG_istore (lv' := [(6, xi z2), (0, xi v0), (1, xj v1), (3, xq v3), (4, xi v4), (5, xi v5)]) d_FL_orderTruth_28 (Nat.le_of_ble_eq_true rfl) rfl ?_
    refine xG_iload_n d_FL_orderTruth_30 rfl rfl ?_
    refine xG_sipush (v := 165) d_FL_orderTruth_31 rfl ?_
    refine xG_icmp_ne (tgt := 47) d_FL_orderTruth_34 (by decide) (fun c => ?_) (fun c => ?_)
    · have h := h.1 c
      refine xG_iload d_FL_orderTruth_47 rfl ?_
      refine xG_iload d_FL_orderTruth_49 rfl ?_
      refine xG_icmp_gt (tgt := 56) d_FL_orderTruth_51 (by decide) (fun c => ?_) (fun c => ?_)
      · have h := h.1 c
        refine xG_iinc (v := v5 + 1) (lv' := [(5, xi (v5 + 1)), (6, xi z2), (0, xi v0), (1, xj v1), (3, xq v3), (4, xi v4)]) d_FL_orderTruth_56 rfl rfl (Nat.le_of_ble_eq_true rfl) rfl ?_
        refine xG_goto (tgt := 9) d_FL_orderTruth_59 (by decide) ?_
        refine xG_pick [2, 3, 4, 5, 0] rfl ?_
        exact h
      · have h := h.2 c
        refine xG_iconst (v := 2) d_FL_orderTruth_54 rfl ?_
        exact xG_ireturn d_FL_orderTruth_55 rfl rfl ⟨rfl, hL2, _, rfl, h⟩
    · have h := h.2 c
      refine xG_iload d_FL_orderTruth_37 rfl ?_
      refine xG_iload d_FL_orderTruth_39 rfl ?_
      refine xG_icmp_lt (tgt := 56) d_FL_orderTruth_41 (by decide) (fun c => ?_) (fun c => ?_)
      · have h := h.1 c
        refine xG_iinc (v := v5 + 1) (lv' := [(5, xi (v5 + 1)), (6, xi z2), (0, xi v0), (1, xj v1), (3, xq v3), (4, xi v4)]) d_FL_orderTruth_56 rfl rfl (Nat.le_of_ble_eq_true rfl) rfl ?_
        refine xG_goto (tgt := 9) d_FL_orderTruth_59 (by decide) ?_
        refine xG_pick [2, 3, 4, 5, 0] rfl ?_
        exact h
      · have h := h.2 c
        refine xG_goto (tgt := 54) d_FL_orderTruth_44 (by decide) ?_
        refine xG_iconst (v := 2) d_FL_orderTruth_54 rfl ?_
        exact xG_ireturn d_FL_orderTruth_55 rfl rfl ⟨rfl, hL2, _, rfl, h⟩
theorem e_FL_orderTruth {l : Launch} {V : xV} {Q : Int32 → xIt → xJt → xPt → Prop} {I : xIt} {J : xJt} {P : xPt} {v0 : Int32} {v1 : Int64} {v3 : Option Nat} (h : G_FL_orderTruth l V Q 0 [(0, xi v0), (1, xj v1), (3, xq v3)] [] I J P) : xMet l V y_FL_orderTruth 2 0 0 [xi v0, xj v1, xq v3] xS0 I J P (xPi Q) := xMet_of (by decide) (Nat.le_of_ble_eq_true rfl) h

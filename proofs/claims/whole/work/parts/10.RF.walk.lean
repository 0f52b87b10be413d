abbrev G_RF_tlv (l : Launch) (V : xV) (Q : Int32 → xIt → xJt → xPt → Prop) (pc : Nat) (lv : List (Nat × xX)) (st : List xX) (I : xIt) (J : xJt) (P : xPt) : Prop := xG l V y_RF_tlv (xR 1 0 0) (xFn V y_RF_tlv (xR 1 0 0) (xPi Q)) pc lv st xS0 I J P (0, 0)
set_option maxRecDepth 20000 in
theorem b_RF_tlv_0 {l : Launch} {V : xV} {Q : Int32 → xIt → xJt → xPt → Prop} {I : xIt} {J : xJt} {P : xPt} (hL : xL P) {v1 : Int32} {v2 : Int32} (h : (((v1 + 2) ≤ v2 → (vp_in (v1 + 1) 160 ∧ ((¬ (I 251 ((v1 + 1).toNatClampNeg)) = 129 → (((I 251 ((v1 + 1).toNatClampNeg)) ≤ 127 → G_RF_tlv l V Q 60 [(0, xq (some 250)), (1, xi v1), (2, xi v2), (3, xi (I 251 ((v1 + 1).toNatClampNeg))), (4, xi (v1 + 2))] [] I J P) ∧ (¬ (I 251 ((v1 + 1).toNatClampNeg)) ≤ 127 → Q 0 I J P))) ∧ ((I 251 ((v1 + 1).toNatClampNeg)) = 129 → (((v1 + 2) < v2 → (vp_in (v1 + 2) 160 ∧ G_RF_tlv l V Q 60 [(0, xq (some 250)), (1, xi v1), (2, xi v2), (3, xi (I 251 ((v1 + 2).toNatClampNeg))), (4, xi ((v1 + 2) + 1))] [] I J P)) ∧ (¬ (v1 + 2) < v2 → Q 0 I J P)))))) ∧ (¬ (v1 + 2) ≤ v2 → Q 0 I J P))) : G_RF_tlv l V Q 0 [(0, xq (some 250)), (1, xi v1), (2, xi v2)] [] I J P := by
  refine xG_iload_n d_RF_tlv_0 rfl rfl ?_
  refine xG_iconst (v := 2) d_RF_tlv_1 rfl ?_
  refine xG_iadd d_RF_tlv_2 ?_
  refine xG_iload_n d_RF_tlv_3 rfl rfl ?_
  refine xG_icmp_le (tgt := 9) d_RF_tlv_4 (by decide) (fun c => ?_) (fun c => ?_)
  · have h := h.1 c
    refine xG_aload_n d_RF_tlv_9 rfl rfl rfl ?_
    refine xG_getq d_RF_tlv_10 xf_RF_7 rfl s0_250 ?_
    refine xG_iload_n d_RF_tlv_13 rfl rfl ?_
    refine xG_iconst (v := 1) d_RF_tlv_14 rfl ?_
    refine xG_iadd d_RF_tlv_15 ?_
    refine xG_iald d_RF_tlv_16 (lp_250_2 hL) s0_251 h.1 ?_
    have h := h.2
    refine xG_topi (x' := I 251 ((v1 + 1).toNatClampNeg)) (by first | rfl | exact xu_at | simp [xu]) ?_
    refine xG_istore_n (lv' := [(3, xi (I 251 ((v1 + 1).toNatClampNeg))), (0, xq (some 250)), (1, xi v1), (2, xi v2)]) d_RF_tlv_17 rfl (Nat.le_of_ble_eq_true rfl) rfl ?_
    refine xG_iload_n d_RF_tlv_18 rfl rfl ?_
    refine xG_iconst (v := 2) d_RF_tlv_19 rfl ?_
    refine xG_iadd d_RF_tlv_20 ?_
    refine xG_istore (lv' := [(4, xi (v1 + 2)), (3, xi (I 251 ((v1 + 1).toNatClampNeg))), (0, xq (some 250)), (1, xi v1), (2, xi v2)]) d_RF_tlv_21 (Nat.le_of_ble_eq_true rfl) rfl ?_
    refine xG_iload_n d_RF_tlv_23 rfl rfl ?_
    refine xG_sipush (v := 129) d_RF_tlv_24 rfl ?_
    refine xG_icmp_ne (tgt := 52) d_RF_tlv_27 (by decide) (fun c => ?_) (fun c => ?_)
    · have h := h.1 c
      refine xG_iload_n d_RF_tlv_52 rfl rfl ?_
      refine xG_bipush (v := 127) d_RF_tlv_53 rfl ?_
      refine xG_icmp_le (tgt := 60) d_RF_tlv_55 (by decide) (fun c => ?_) (fun c => ?_)
      · have h := h.1 c
        refine xG_pick [2, 3, 4, 1, 0] rfl ?_
        exact h
      · have h := h.2 c
        refine xG_iconst (v := 0) d_RF_tlv_58 rfl ?_
        exact xG_ireturn d_RF_tlv_59 rfl rfl ⟨rfl, hL, _, rfl, h⟩
    · have h := h.2 c
      refine xG_iload d_RF_tlv_30 rfl ?_
      refine xG_iload_n d_RF_tlv_32 rfl rfl ?_
      refine xG_icmp_lt (tgt := 38) d_RF_tlv_33 (by decide) (fun c => ?_) (fun c => ?_)
      · have h := h.1 c
        refine xG_aload_n d_RF_tlv_38 rfl rfl rfl ?_
        refine xG_getq d_RF_tlv_39 xf_RF_7 rfl s0_250 ?_
        refine xG_iload d_RF_tlv_42 rfl ?_
        refine xG_iald d_RF_tlv_44 (lp_250_2 hL) s0_251 h.1 ?_
        have h := h.2
        refine xG_topi (x' := I 251 ((v1 + 2).toNatClampNeg)) (by first | rfl | exact xu_at | simp [xu]) ?_
        refine xG_istore_n (lv' := [(3, xi (I 251 ((v1 + 2).toNatClampNeg))), (4, xi (v1 + 2)), (0, xq (some 250)), (1, xi v1), (2, xi v2)]) d_RF_tlv_45 rfl (Nat.le_of_ble_eq_true rfl) rfl ?_
        refine xG_iinc (v := (v1 + 2) + 1) (lv' := [(4, xi ((v1 + 2) + 1)), (3, xi (I 251 ((v1 + 2).toNatClampNeg))), (0, xq (some 250)), (1, xi v1), (2, xi v2)]) d_RF_tlv_46 rfl rfl (Nat.le_of_ble_eq_true rfl) rfl ?_
        refine xG_goto (tgt := 60) d_RF_tlv_49 (by decide) ?_
        refine xG_pick [2, 3, 4, 1, 0] rfl ?_
        exact h
      · have h := h.2 c
        refine xG_iconst (v := 0) d_RF_tlv_36 rfl ?_
        exact xG_ireturn d_RF_tlv_37 rfl rfl ⟨rfl, hL, _, rfl, h⟩
  · have h := h.2 c
    refine xG_iconst (v := 0) d_RF_tlv_7 rfl ?_
    exact xG_ireturn d_RF_tlv_8 rfl rfl ⟨rfl, hL, _, rfl, h⟩
set_option maxRecDepth 20000 in
theorem b_RF_tlv_60 {l : Launch} {V : xV} {Q : Int32 → xIt → xJt → xPt → Prop} {I : xIt} {J : xJt} {P : xPt} (hL : xL P) {v1 : Int32} {v2 : Int32} {v3 : Int32} {v4 : Int32} (h : (vp_in v1 160 ∧ ((v2 < (v4 + v3) → Q 0 (xu (xu (xu I 250 3 (I 251 v1.toNatClampNeg)) 250 4 v4) 250 5 (v4 + v3)) J P) ∧ (¬ v2 < (v4 + v3) → Q 1 (xu (xu (xu I 250 3 (I 251 v1.toNatClampNeg)) 250 4 v4) 250 5 (v4 + v3)) J P)))) : G_RF_tlv l V Q 60 [(0, xq (some 250)), (1, xi v1), (2, xi v2), (3, xi v3), (4, xi v4)] [] I J P := by
  refine xG_aload_n d_RF_tlv_60 rfl rfl rfl ?_
  refine xG_aload_n d_RF_tlv_61 rfl rfl rfl ?_
  refine xG_getq d_RF_tlv_62 xf_RF_7 rfl s0_250 ?_
  refine xG_iload_n d_RF_tlv_65 rfl rfl ?_
  refine xG_iald d_RF_tlv_66 (lp_250_2 hL) s0_251 h.1 ?_
  have h := h.2
  refine xG_puti d_RF_tlv_67 xf_RF_83 (Or.inl rfl) rfl s0_250 rfl rfl ?_
  refine xG_aload_n d_RF_tlv_70 rfl rfl rfl ?_
  refine xG_iload d_RF_tlv_71 rfl ?_
  refine xG_puti d_RF_tlv_73 xf_RF_86 (Or.inl rfl) rfl s0_250 rfl rfl ?_
  refine xG_aload_n d_RF_tlv_76 rfl rfl rfl ?_
  refine xG_iload d_RF_tlv_77 rfl ?_
  refine xG_iload_n d_RF_tlv_79 rfl rfl ?_
  refine xG_iadd d_RF_tlv_80 ?_
  refine xG_puti d_RF_tlv_81 xf_RF_89 (Or.inl rfl) rfl s0_250 rfl rfl ?_
  refine xG_aload_n d_RF_tlv_84 rfl rfl rfl ?_
  refine xG_geti d_RF_tlv_85 xf_RF_89 rfl s0_250 ?_
  refine xG_topi (x' := v4 + v3) (by first | rfl | exact xu_at | simp [xu]) ?_
  refine xG_iload_n d_RF_tlv_88 rfl rfl ?_
  refine xG_icmp_gt (tgt := 96) d_RF_tlv_89 (by decide) (fun c => ?_) (fun c => ?_)
  · have h := h.1 c
    refine xG_iconst (v := 0) d_RF_tlv_96 rfl ?_
    exact xG_ireturn d_RF_tlv_97 rfl rfl ⟨rfl, hL, _, rfl, h⟩
  · have h := h.2 c
    refine xG_iconst (v := 1) d_RF_tlv_92 rfl ?_
    refine xG_goto (tgt := 97) d_RF_tlv_93 (by decide) ?_
    exact xG_ireturn d_RF_tlv_97 rfl rfl ⟨rfl, hL, _, rfl, h⟩
theorem e_RF_tlv {l : Launch} {V : xV} {Q : Int32 → xIt → xJt → xPt → Prop} {I : xIt} {J : xJt} {P : xPt} {v1 : Int32} {v2 : Int32} (h : G_RF_tlv l V Q 0 [(0, xq (some 250)), (1, xi v1), (2, xi v2)] [] I J P) : xMet l V y_RF_tlv 1 0 0 [xq (some 250), xi v1, xi v2] xS0 I J P (xPi Q) := xMet_of (by decide) (Nat.le_of_ble_eq_true rfl) h

abbrev G_RF_take (l : Launch) (V : xV) (Q : Int32 → xIt → xJt → xPt → Prop) (pc : Nat) (lv : List (Nat × xX)) (st : List xX) (I : xIt) (J : xJt) (P : xPt) : Prop := xG l V y_RF_take (xR 2 0 0) (xFn V y_RF_take (xR 2 0 0) (xPi Q)) pc lv st xS0 I J P (0, 0)
set_option maxRecDepth 20000 in
theorem b_RF_take_0 {l : Launch} {V : xV} {Q : Int32 → xIt → xJt → xPt → Prop} {I : xIt} {J : xJt} {P : xPt} (hL : xL P) {v1 : Int32} {v2 : Int32} {v3 : Int32} (h : (∃ Q1 : Int32 → xIt → xJt → xPt → Prop, xMet l V y_RF_tlv 1 0 0 [xq (some 250), xi (I 250 6), xi v3] xS0 I J P (xPi Q1) ∧ ∀ (z1 : Int32) (I1 : xIt) (J1 : xJt) (P1 : xPt), Q1 z1 I1 J1 P1 → ((z1 = 0 → Q 0 I1 J1 P1) ∧ (¬ z1 = 0 → ((¬ (I1 250 3) = v1 → Q 0 I1 J1 P1) ∧ ((I1 250 3) = v1 → ((((I1 250 5) - (I1 250 4)) ≤ v2 → Q 1 (xu I1 250 6 (I1 250 5)) J1 P1) ∧ (¬ ((I1 250 5) - (I1 250 4)) ≤ v2 → Q 0 I1 J1 P1)))))))) : G_RF_take l V Q 0 [(0, xq (some 250)), (1, xi v1), (2, xi v2), (3, xi v3)] [] I J P := by
  refine xG_aload_n d_RF_take_0 rfl rfl rfl ?_
  refine xG_aload_n d_RF_take_1 rfl rfl rfl ?_
  refine xG_geti d_RF_take_2 xf_RF_92 rfl s0_250 ?_
  refine xG_iload_n d_RF_take_5 rfl rfl ?_
  obtain ⟨Q1, hM, h⟩ := h
  refine xG_callv (as := [xi (I 250 6), xi v3]) (rest := []) d_RF_take_6 yv_RF_tlv w4_195 rfl rfl rfl s0_250 (by decide) rfl hM ⟨by decide, by decide⟩ (Nat.le_of_ble_eq_true rfl) ⟨Nat.zero_le _, Nat.zero_le _⟩ (fun r S1 I1 J1 P1 hp => ?_)
  obtain ⟨rfl, hL1, z1, rfl, hq⟩ := hp
  have h := h z1 I1 J1 P1 hq
  refine xG_if_eq (tgt := 33) d_RF_take_9 (by decide) (fun c => ?_) (fun c => ?_)
  · have h := h.1 c
    refine xG_iconst (v := 0) d_RF_take_33 rfl ?_
    exact xG_ireturn d_RF_take_34 rfl rfl ⟨rfl, hL1, _, rfl, h⟩
  · have h := h.2 c
    refine xG_aload_n d_RF_take_12 rfl rfl rfl ?_
    refine xG_geti d_RF_take_13 xf_RF_83 rfl s0_250 ?_
    refine xG_iload_n d_RF_take_16 rfl rfl ?_
    refine xG_icmp_ne (tgt := 33) d_RF_take_17 (by decide) (fun c => ?_) (fun c => ?_)
    · have h := h.1 c
      refine xG_iconst (v := 0) d_RF_take_33 rfl ?_
      exact xG_ireturn d_RF_take_34 rfl rfl ⟨rfl, hL1, _, rfl, h⟩
    · have h := h.2 c
      refine xG_aload_n d_RF_take_20 rfl rfl rfl ?_
      refine xG_geti d_RF_take_21 xf_RF_89 rfl s0_250 ?_
      refine xG_aload_n d_RF_take_24 rfl rfl rfl ?_
      refine xG_geti d_RF_take_25 xf_RF_86 rfl s0_250 ?_
      refine xG_isub d_RF_take_28 ?_
      refine xG_iload_n d_RF_take_29 rfl rfl ?_
      refine xG_icmp_le (tgt := 35) d_RF_take_30 (by decide) (fun c => ?_) (fun c => ?_)
      · have h := h.1 c
        refine xG_aload_n d_RF_take_35 rfl rfl rfl ?_
        refine xG_aload_n d_RF_take_36 rfl rfl rfl ?_
        refine xG_geti d_RF_take_37 xf_RF_89 rfl s0_250 ?_
        refine xG_puti d_RF_take_40 xf_RF_92 (Or.inl rfl) rfl s0_250 rfl rfl ?_
        refine xG_iconst (v := 1) d_RF_take_43 rfl ?_
        exact xG_ireturn d_RF_take_44 rfl rfl ⟨rfl, hL1, _, rfl, h⟩
      · have h := h.2 c
        refine xG_iconst (v := 0) d_RF_take_33 rfl ?_
        exact xG_ireturn d_RF_take_34 rfl rfl ⟨rfl, hL1, _, rfl, h⟩
theorem e_RF_take {l : Launch} {V : xV} {Q : Int32 → xIt → xJt → xPt → Prop} {I : xIt} {J : xJt} {P : xPt} {v1 : Int32} {v2 : Int32} {v3 : Int32} (h : G_RF_take l V Q 0 [(0, xq (some 250)), (1, xi v1), (2, xi v2), (3, xi v3)] [] I J P) : xMet l V y_RF_take 2 0 0 [xq (some 250), xi v1, xi v2, xi v3] xS0 I J P (xPi Q) := xMet_of (by decide) (Nat.le_of_ble_eq_true rfl) h

abbrev G_RF_integer (l : Launch) (V : xV) (Q : Int32 → xIt → xJt → xPt → Prop) (pc : Nat) (lv : List (Nat × xX)) (st : List xX) (I : xIt) (J : xJt) (P : xPt) : Prop := xG l V y_RF_integer (xR 3 0 0) (xFn V y_RF_integer (xR 3 0 0) (xPi Q)) pc lv st xS0 I J P (0, 0)
set_option maxRecDepth 20000 in
theorem b_RF_integer_0 {l : Launch} {V : xV} {Q : Int32 → xIt → xJt → xPt → Prop} {I : xIt} {J : xJt} {P : xPt} (hL : xL P) {v1 : Int32} (h : (∃ Q1 : Int32 → xIt → xJt → xPt → Prop, xMet l V y_RF_take 2 0 0 [xq (some 250), xi 2, xi 2, xi v1] xS0 I J P (xPi Q1) ∧ ∀ (z1 : Int32) (I1 : xIt) (J1 : xJt) (P1 : xPt), Q1 z1 I1 J1 P1 → ((z1 = 0 → Q 0 I1 J1 P1) ∧ (¬ z1 = 0 → ((¬ (I1 250 5) = (I1 250 4) → (vp_in (I1 250 4) 160 ∧ (((I1 251 ((I1 250 4).toNatClampNeg)) ≤ 127 → (vp_in (I1 250 4) 160 ∧ G_RF_integer l V Q 62 [(0, xq (some 250)), (1, xi v1)] [xi (I1 251 ((I1 250 4).toNatClampNeg))] I1 J1 P1)) ∧ (¬ (I1 251 ((I1 250 4).toNatClampNeg)) ≤ 127 → (vp_in (I1 250 4) 160 ∧ G_RF_integer l V Q 62 [(0, xq (some 250)), (1, xi v1)] [xi ((I1 251 ((I1 250 4).toNatClampNeg)) - 256)] I1 J1 P1))))) ∧ ((I1 250 5) = (I1 250 4) → Q 0 I1 J1 P1)))))) : G_RF_integer l V Q 0 [(0, xq (some 250)), (1, xi v1)] [] I J P := by
  refine xG_aload_n d_RF_integer_0 rfl rfl rfl ?_
  refine xG_iconst (v := 2) d_RF_integer_1 rfl ?_
  refine xG_iconst (v := 2) d_RF_integer_2 rfl ?_
  refine xG_iload_n d_RF_integer_3 rfl rfl ?_
  obtain ⟨Q1, hM, h⟩ := h
  refine xG_callv (as := [xi 2, xi 2, xi v1]) (rest := []) d_RF_integer_4 yv_RF_take w4_191 rfl rfl rfl s0_250 (by decide) rfl hM ⟨by decide, by decide⟩ (Nat.le_of_ble_eq_true rfl) ⟨Nat.zero_le _, Nat.zero_le _⟩ (fun r S1 I1 J1 P1 hp => ?_)
  obtain ⟨rfl, hL1, z1, rfl, hq⟩ := hp
  have h := h z1 I1 J1 P1 hq
  refine xG_if_eq (tgt := 21) d_RF_integer_7 (by decide) (fun c => ?_) (fun c => ?_)
  · have h := h.1 c
    refine xG_iconst (v := 0) d_RF_integer_21 rfl ?_
    exact xG_ireturn d_RF_integer_22 rfl rfl ⟨rfl, hL1, _, rfl, h⟩
  · have h := h.2 c
    refine xG_aload_n d_RF_integer_10 rfl rfl rfl ?_
    refine xG_geti d_RF_integer_11 xf_RF_89 rfl s0_250 ?_
    refine xG_aload_n d_RF_integer_14 rfl rfl rfl ?_
    refine xG_geti d_RF_integer_15 xf_RF_86 rfl s0_250 ?_
    refine xG_icmp_ne (tgt := 23) d_RF_integer_18 (by decide) (fun c => ?_) (fun c => ?_)
    · have h := h.1 c
      refine xG_aload_n d_RF_integer_23 rfl rfl rfl ?_
      refine xG_getq d_RF_integer_24 xf_RF_7 rfl s0_250 ?_
      refine xG_aload_n d_RF_integer_27 rfl rfl rfl ?_
      refine xG_geti d_RF_integer_28 xf_RF_86 rfl s0_250 ?_
      refine xG_iald d_RF_integer_31 (lp_250_2 hL1) s0_251 h.1 ?_
      have h := h.2
      refine xG_topi (x' := I1 251 ((I1 250 4).toNatClampNeg)) (by first | rfl | exact xu_at | simp [xu]) ?_
      refine xG_bipush (v := 127) d_RF_integer_32 rfl ?_
      refine xG_icmp_le (tgt := 53) d_RF_integer_34 (by decide) (fun c => ?_) (fun c => ?_)
      · have h := h.1 c
        refine xG_aload_n d_RF_integer_53 rfl rfl rfl ?_
        refine xG_getq d_RF_integer_54 xf_RF_7 rfl s0_250 ?_
        refine xG_aload_n d_RF_integer_57 rfl rfl rfl ?_
        refine xG_geti d_RF_integer_58 xf_RF_86 rfl s0_250 ?_
        refine xG_iald d_RF_integer_61 (lp_250_2 hL1) s0_251 h.1 ?_
        have h := h.2
        refine xG_topi (x' := I1 251 ((I1 250 4).toNatClampNeg)) (by first | rfl | exact xu_at | simp [xu]) ?_
        exact h
      · have h := h.2 c
        refine xG_aload_n d_RF_integer_37 rfl rfl rfl ?_
        refine xG_getq d_RF_integer_38 xf_RF_7 rfl s0_250 ?_
        refine xG_aload_n d_RF_integer_41 rfl rfl rfl ?_
        refine xG_geti d_RF_integer_42 xf_RF_86 rfl s0_250 ?_
        refine xG_iald d_RF_integer_45 (lp_250_2 hL1) s0_251 h.1 ?_
        have h := h.2
        refine xG_topi (x' := I1 251 ((I1 250 4).toNatClampNeg)) (by first | rfl | exact xu_at | simp [xu]) ?_
        refine xG_sipush (v := 256) d_RF_integer_46 rfl ?_
        refine xG_isub d_RF_integer_49 ?_
        refine xG_goto (tgt := 62) d_RF_integer_50 (by decide) ?_
        exact h
    · have h := h.2 c
      refine xG_iconst (v := 0) d_RF_integer_21 rfl ?_
      exact xG_ireturn d_RF_integer_22 rfl rfl ⟨rfl, hL1, _, rfl, h⟩
set_option maxRecDepth 20000 in
theorem b_RF_integer_62 {l : Launch} {V : xV} {Q : Int32 → xIt → xJt → xPt → Prop} {I : xIt} {J : xJt} {P : xPt} (hL : xL P) {v1 : Int32} {u0 : Int32} (h : ((¬ ((I 250 5) - (I 250 4)) = 1 → (vp_in ((I 250 4) + 1) 160 ∧ Q 1 (xu I 250 7 ((256 * u0) + (I 251 (((I 250 4) + 1).toNatClampNeg)))) J P)) ∧ (((I 250 5) - (I 250 4)) = 1 → Q 1 (xu I 250 7 u0) J P))) : G_RF_integer l V Q 62 [(0, xq (some 250)), (1, xi v1)] [xi u0] I J P := by
  refine xG_istore_n (lv' := [(2, xi u0), (0, xq (some 250)), (1, xi v1)]) d_RF_integer_62 rfl (Nat.le_of_ble_eq_true rfl) rfl ?_
  refine xG_aload_n d_RF_integer_63 rfl rfl rfl ?_
  refine xG_aload_n d_RF_integer_64 rfl rfl rfl ?_
  refine xG_geti d_RF_integer_65 xf_RF_89 rfl s0_250 ?_
  refine xG_aload_n d_RF_integer_68 rfl rfl rfl ?_
  refine xG_geti d_RF_integer_69 xf_RF_86 rfl s0_250 ?_
  refine xG_isub d_RF_integer_72 ?_
  refine xG_iconst (v := 1) d_RF_integer_73 rfl ?_
  refine xG_icmp_ne (tgt := 81) d_RF_integer_74 (by decide) (fun c => ?_) (fun c => ?_)
  · have h := h.1 c
    refine xG_sipush (v := 256) d_RF_integer_81 rfl ?_
    refine xG_iload_n d_RF_integer_84 rfl rfl ?_
    refine xG_imul d_RF_integer_85 ?_
    refine xG_aload_n d_RF_integer_86 rfl rfl rfl ?_
    refine xG_getq d_RF_integer_87 xf_RF_7 rfl s0_250 ?_
    refine xG_aload_n d_RF_integer_90 rfl rfl rfl ?_
    refine xG_geti d_RF_integer_91 xf_RF_86 rfl s0_250 ?_
    refine xG_iconst (v := 1) d_RF_integer_94 rfl ?_
    refine xG_iadd d_RF_integer_95 ?_
    refine xG_iald d_RF_integer_96 (lp_250_2 hL) s0_251 h.1 ?_
    have h := h.2
    refine xG_topi (x' := I 251 (((I 250 4) + 1).toNatClampNeg)) (by first | rfl | exact xu_at | simp [xu]) ?_
    refine xG_iadd d_RF_integer_97 ?_
    refine xG_puti d_RF_integer_98 xf_RF_103 (Or.inl rfl) rfl s0_250 rfl rfl ?_
    refine xG_iconst (v := 1) d_RF_integer_101 rfl ?_
    exact xG_ireturn d_RF_integer_102 rfl rfl ⟨rfl, hL, _, rfl, h⟩
  · have h := h.2 c
    refine xG_iload_n d_RF_integer_77 rfl rfl ?_
    refine xG_goto (tgt := 98) d_RF_integer_78 (by decide) ?_
    refine xG_puti d_RF_integer_98 xf_RF_103 (Or.inl rfl) rfl s0_250 rfl rfl ?_
    refine xG_iconst (v := 1) d_RF_integer_101 rfl ?_
    exact xG_ireturn d_RF_integer_102 rfl rfl ⟨rfl, hL, _, rfl, h⟩
theorem e_RF_integer {l : Launch} {V : xV} {Q : Int32 → xIt → xJt → xPt → Prop} {I : xIt} {J : xJt} {P : xPt} {v1 : Int32} (h : G_RF_integer l V Q 0 [(0, xq (some 250)), (1, xi v1)] [] I J P) : xMet l V y_RF_integer 3 0 0 [xq (some 250), xi v1] xS0 I J P (xPi Q) := xMet_of (by decide) (Nat.le_of_ble_eq_true rfl) h

abbrev G_RF_single (l : Launch) (V : xV) (Q : Int32 → xIt → xJt → xPt → Prop) (pc : Nat) (lv : List (Nat × xX)) (st : List xX) (I : xIt) (J : xJt) (P : xPt) : Prop := xG l V y_RF_single (xR 3 0 0) (xFn V y_RF_single (xR 3 0 0) (xPi Q)) pc lv st xS0 I J P (0, 0)
set_option maxRecDepth 20000 in
theorem b_RF_single_0 {l : Launch} {V : xV} {Q : Int32 → xIt → xJt → xPt → Prop} {I : xIt} {J : xJt} {P : xPt} (hL : xL P) {v1 : Int32} {v2 : Int32} (h : (∃ Q1 : Int32 → xIt → xJt → xPt → Prop, xMet l V y_RF_take 2 0 0 [xq (some 250), xi v1, xi 1, xi v2] xS0 I J P (xPi Q1) ∧ ∀ (z1 : Int32) (I1 : xIt) (J1 : xJt) (P1 : xPt), Q1 z1 I1 J1 P1 → ((z1 = 0 → Q 0 I1 J1 P1) ∧ (¬ z1 = 0 → ((¬ (I1 250 5) = (I1 250 4) → (vp_in (I1 250 4) 160 ∧ Q 1 (xu I1 250 7 (I1 251 ((I1 250 4).toNatClampNeg))) J1 P1)) ∧ ((I1 250 5) = (I1 250 4) → Q 0 I1 J1 P1)))))) : G_RF_single l V Q 0 [(0, xq (some 250)), (1, xi v1), (2, xi v2)] [] I J P := by
  refine xG_aload_n d_RF_single_0 rfl rfl rfl ?_
  refine xG_iload_n d_RF_single_1 rfl rfl ?_
  refine xG_iconst (v := 1) d_RF_single_2 rfl ?_
  refine xG_iload_n d_RF_single_3 rfl rfl ?_
  obtain ⟨Q1, hM, h⟩ := h
  refine xG_callv (as := [xi v1, xi 1, xi v2]) (rest := []) d_RF_single_4 yv_RF_take w4_191 rfl rfl rfl s0_250 (by decide) rfl hM ⟨by decide, by decide⟩ (Nat.le_of_ble_eq_true rfl) ⟨Nat.zero_le _, Nat.zero_le _⟩ (fun r S1 I1 J1 P1 hp => ?_)
  obtain ⟨rfl, hL1, z1, rfl, hq⟩ := hp
  have h := h z1 I1 J1 P1 hq
  refine xG_if_eq (tgt := 21) d_RF_single_7 (by decide) (fun c => ?_) (fun c => ?_)
  · have h := h.1 c
    refine xG_iconst (v := 0) d_RF_single_21 rfl ?_
    exact xG_ireturn d_RF_single_22 rfl rfl ⟨rfl, hL1, _, rfl, h⟩
  · have h := h.2 c
    refine xG_aload_n d_RF_single_10 rfl rfl rfl ?_
    refine xG_geti d_RF_single_11 xf_RF_89 rfl s0_250 ?_
    refine xG_aload_n d_RF_single_14 rfl rfl rfl ?_
    refine xG_geti d_RF_single_15 xf_RF_86 rfl s0_250 ?_
    refine xG_icmp_ne (tgt := 23) d_RF_single_18 (by decide) (fun c => ?_) (fun c => ?_)
    · have h := h.1 c
      refine xG_aload_n d_RF_single_23 rfl rfl rfl ?_
      refine xG_aload_n d_RF_single_24 rfl rfl rfl ?_
      refine xG_getq d_RF_single_25 xf_RF_7 rfl s0_250 ?_
      refine xG_aload_n d_RF_single_28 rfl rfl rfl ?_
      refine xG_geti d_RF_single_29 xf_RF_86 rfl s0_250 ?_
      refine xG_iald d_RF_single_32 (lp_250_2 hL1) s0_251 h.1 ?_
      have h := h.2
      refine xG_topi (x' := I1 251 ((I1 250 4).toNatClampNeg)) (by first | rfl | exact xu_at | simp [xu]) ?_
      refine xG_puti d_RF_single_33 xf_RF_103 (Or.inl rfl) rfl s0_250 rfl rfl ?_
      refine xG_iconst (v := 1) d_RF_single_36 rfl ?_
      exact xG_ireturn d_RF_single_37 rfl rfl ⟨rfl, hL1, _, rfl, h⟩
    · have h := h.2 c
      refine xG_iconst (v := 0) d_RF_single_21 rfl ?_
      exact xG_ireturn d_RF_single_22 rfl rfl ⟨rfl, hL1, _, rfl, h⟩
theorem e_RF_single {l : Launch} {V : xV} {Q : Int32 → xIt → xJt → xPt → Prop} {I : xIt} {J : xJt} {P : xPt} {v1 : Int32} {v2 : Int32} (h : G_RF_single l V Q 0 [(0, xq (some 250)), (1, xi v1), (2, xi v2)] [] I J P) : xMet l V y_RF_single 3 0 0 [xq (some 250), xi v1, xi v2] xS0 I J P (xPi Q) := xMet_of (by decide) (Nat.le_of_ble_eq_true rfl) h

abbrev G_RF_textA (l : Launch) (V : xV) (Q : Int32 → xIt → xJt → xPt → Prop) (pc : Nat) (lv : List (Nat × xX)) (st : List xX) (I : xIt) (J : xJt) (P : xPt) : Prop := xG l V y_RF_textA (xR 3 0 0) (xFn V y_RF_textA (xR 3 0 0) (xPi Q)) pc lv st xS0 I J P (0, 0)
set_option maxRecDepth 20000 in
theorem b_RF_textA_0 {l : Launch} {V : xV} {Q : Int32 → xIt → xJt → xPt → Prop} {I : xIt} {J : xJt} {P : xPt} (hL : xL P) {v1 : Int32} (h : (∃ Q1 : Int32 → xIt → xJt → xPt → Prop, xMet l V y_RF_take 2 0 0 [xq (some 250), xi 4, xi 30, xi v1] xS0 I J P (xPi Q1) ∧ ∀ (z1 : Int32) (I1 : xIt) (J1 : xJt) (P1 : xPt), Q1 z1 I1 J1 P1 → ((¬ z1 = 0 → Q 1 (xu (xu I1 250 12 (I1 250 4)) 250 13 (I1 250 5)) J1 P1) ∧ (z1 = 0 → Q 0 I1 J1 P1)))) : G_RF_textA l V Q 0 [(0, xq (some 250)), (1, xi v1)] [] I J P := by
  refine xG_aload_n d_RF_textA_0 rfl rfl rfl ?_
  refine xG_iconst (v := 4) d_RF_textA_1 rfl ?_
  refine xG_bipush (v := 30) d_RF_textA_2 rfl ?_
  refine xG_iload_n d_RF_textA_4 rfl rfl ?_
  obtain ⟨Q1, hM, h⟩ := h
  refine xG_callv (as := [xi 4, xi 30, xi v1]) (rest := []) d_RF_textA_5 yv_RF_take w4_191 rfl rfl rfl s0_250 (by decide) rfl hM ⟨by decide, by decide⟩ (Nat.le_of_ble_eq_true rfl) ⟨Nat.zero_le _, Nat.zero_le _⟩ (fun r S1 I1 J1 P1 hp => ?_)
  obtain ⟨rfl, hL1, z1, rfl, hq⟩ := hp
  have h := h z1 I1 J1 P1 hq
  refine xG_if_ne (tgt := 13) d_RF_textA_8 (by decide) (fun c => ?_) (fun c => ?_)
  · have h := h.1 c
    refine xG_aload_n d_RF_textA_13 rfl rfl rfl ?_
    refine xG_aload_n d_RF_textA_14 rfl rfl rfl ?_
    refine xG_geti d_RF_textA_15 xf_RF_86 rfl s0_250 ?_
    refine xG_puti d_RF_textA_18 xf_RF_106 (Or.inl rfl) rfl s0_250 rfl rfl ?_
    refine xG_aload_n d_RF_textA_21 rfl rfl rfl ?_
    refine xG_aload_n d_RF_textA_22 rfl rfl rfl ?_
    refine xG_geti d_RF_textA_23 xf_RF_89 rfl s0_250 ?_
    refine xG_topi (x' := I1 250 5) (by first | rfl | exact xu_at | simp [xu]) ?_
    refine xG_puti d_RF_textA_26 xf_RF_109 (Or.inl rfl) rfl s0_250 rfl rfl ?_
    refine xG_iconst (v := 1) d_RF_textA_29 rfl ?_
    exact xG_ireturn d_RF_textA_30 rfl rfl ⟨rfl, hL1, _, rfl, h⟩
  · have h := h.2 c
    refine xG_iconst (v := 0) d_RF_textA_11 rfl ?_
    exact xG_ireturn d_RF_textA_12 rfl rfl ⟨rfl, hL1, _, rfl, h⟩
theorem e_RF_textA {l : Launch} {V : xV} {Q : Int32 → xIt → xJt → xPt → Prop} {I : xIt} {J : xJt} {P : xPt} {v1 : Int32} (h : G_RF_textA l V Q 0 [(0, xq (some 250)), (1, xi v1)] [] I J P) : xMet l V y_RF_textA 3 0 0 [xq (some 250), xi v1] xS0 I J P (xPi Q) := xMet_of (by decide) (Nat.le_of_ble_eq_true rfl) h

abbrev G_RF_textB (l : Launch) (V : xV) (Q : Int32 → xIt → xJt → xPt → Prop) (pc : Nat) (lv : List (Nat × xX)) (st : List xX) (I : xIt) (J : xJt) (P : xPt) : Prop := xG l V y_RF_textB (xR 3 0 0) (xFn V y_RF_textB (xR 3 0 0) (xPi Q)) pc lv st xS0 I J P (0, 0)
set_option maxRecDepth 20000 in
theorem b_RF_textB_0 {l : Launch} {V : xV} {Q : Int32 → xIt → xJt → xPt → Prop} {I : xIt} {J : xJt} {P : xPt} (hL : xL P) {v1 : Int32} (h : (∃ Q1 : Int32 → xIt → xJt → xPt → Prop, xMet l V y_RF_take 2 0 0 [xq (some 250), xi 4, xi 30, xi v1] xS0 I J P (xPi Q1) ∧ ∀ (z1 : Int32) (I1 : xIt) (J1 : xJt) (P1 : xPt), Q1 z1 I1 J1 P1 → ((¬ z1 = 0 → Q 1 (xu (xu I1 250 14 (I1 250 4)) 250 15 (I1 250 5)) J1 P1) ∧ (z1 = 0 → Q 0 I1 J1 P1)))) : G_RF_textB l V Q 0 [(0, xq (some 250)), (1, xi v1)] [] I J P := by
  refine xG_aload_n d_RF_textB_0 rfl rfl rfl ?_
  refine xG_iconst (v := 4) d_RF_textB_1 rfl ?_
  refine xG_bipush (v := 30) d_RF_textB_2 rfl ?_
  refine xG_iload_n d_RF_textB_4 rfl rfl ?_
  obtain ⟨Q1, hM, h⟩ := h
  refine xG_callv (as := [xi 4, xi 30, xi v1]) (rest := []) d_RF_textB_5 yv_RF_take w4_191 rfl rfl rfl s0_250 (by decide) rfl hM ⟨by decide, by decide⟩ (Nat.le_of_ble_eq_true rfl) ⟨Nat.zero_le _, Nat.zero_le _⟩ (fun r S1 I1 J1 P1 hp => ?_)
  obtain ⟨rfl, hL1, z1, rfl, hq⟩ := hp
  have h := h z1 I1 J1 P1 hq
  refine xG_if_ne (tgt := 13) d_RF_textB_8 (by decide) (fun c => ?_) (fun c => ?_)
  · have h := h.1 c
    refine xG_aload_n d_RF_textB_13 rfl rfl rfl ?_
    refine xG_aload_n d_RF_textB_14 rfl rfl rfl ?_
    refine xG_geti d_RF_textB_15 xf_RF_86 rfl s0_250 ?_
    refine xG_puti d_RF_textB_18 xf_RF_112 (Or.inl rfl) rfl s0_250 rfl rfl ?_
    refine xG_aload_n d_RF_textB_21 rfl rfl rfl ?_
    refine xG_aload_n d_RF_textB_22 rfl rfl rfl ?_
    refine xG_geti d_RF_textB_23 xf_RF_89 rfl s0_250 ?_
    refine xG_topi (x' := I1 250 5) (by first | rfl | exact xu_at | simp [xu]) ?_
    refine xG_puti d_RF_textB_26 xf_RF_115 (Or.inl rfl) rfl s0_250 rfl rfl ?_
    refine xG_iconst (v := 1) d_RF_textB_29 rfl ?_
    exact xG_ireturn d_RF_textB_30 rfl rfl ⟨rfl, hL1, _, rfl, h⟩
  · have h := h.2 c
    refine xG_iconst (v := 0) d_RF_textB_11 rfl ?_
    exact xG_ireturn d_RF_textB_12 rfl rfl ⟨rfl, hL1, _, rfl, h⟩
theorem e_RF_textB {l : Launch} {V : xV} {Q : Int32 → xIt → xJt → xPt → Prop} {I : xIt} {J : xJt} {P : xPt} {v1 : Int32} (h : G_RF_textB l V Q 0 [(0, xq (some 250)), (1, xi v1)] [] I J P) : xMet l V y_RF_textB 3 0 0 [xq (some 250), xi v1] xS0 I J P (xPi Q) := xMet_of (by decide) (Nat.le_of_ble_eq_true rfl) h

abbrev G_RF_keepC (l : Launch) (V : xV) (Q : Int32 → xIt → xJt → xPt → Prop) (pc : Nat) (lv : List (Nat × xX)) (st : List xX) (I : xIt) (J : xJt) (P : xPt) : Prop := xG l V y_RF_keepC (xR 1 0 0) (xFn V y_RF_keepC (xR 1 0 0) (xPi Q)) pc lv st xS0 I J P (0, 0)
set_option maxRecDepth 20000 in
theorem b_RF_keepC_0 {l : Launch} {V : xV} {Q : Int32 → xIt → xJt → xPt → Prop} {I : xIt} {J : xJt} {P : xPt} (hL : xL P) {v1 : Int32} (h : ((v1 = 0 ∨ v1 = 1) ∧ Q v1 (xu (xu I 250 16 (I 250 4)) 250 17 (I 250 5)) J P)) : G_RF_keepC l V Q 0 [(0, xq (some 250)), (1, xi v1)] [] I J P := by
  refine xG_aload_n d_RF_keepC_0 rfl rfl rfl ?_
  refine xG_aload_n d_RF_keepC_1 rfl rfl rfl ?_
  refine xG_geti d_RF_keepC_2 xf_RF_86 rfl s0_250 ?_
  refine xG_puti d_RF_keepC_5 xf_RF_118 (Or.inl rfl) rfl s0_250 rfl rfl ?_
  refine xG_aload_n d_RF_keepC_8 rfl rfl rfl ?_
  refine xG_aload_n d_RF_keepC_9 rfl rfl rfl ?_
  refine xG_geti d_RF_keepC_10 xf_RF_89 rfl s0_250 ?_
  refine xG_topi (x' := I 250 5) (by first | rfl | exact xu_at | simp [xu]) ?_
  refine xG_puti d_RF_keepC_13 xf_RF_121 (Or.inl rfl) rfl s0_250 rfl rfl ?_
  refine xG_iload_n d_RF_keepC_16 rfl rfl ?_
  exact xG_ireturn d_RF_keepC_17 rfl (x_nb h.1) ⟨rfl, hL, _, rfl, h.2⟩
theorem e_RF_keepC {l : Launch} {V : xV} {Q : Int32 → xIt → xJt → xPt → Prop} {I : xIt} {J : xJt} {P : xPt} {v1 : Int32} (h : G_RF_keepC l V Q 0 [(0, xq (some 250)), (1, xi v1)] [] I J P) : xMet l V y_RF_keepC 1 0 0 [xq (some 250), xi v1] xS0 I J P (xPi Q) := xMet_of (by decide) (Nat.le_of_ble_eq_true rfl) h

abbrev G_RF_listValues (l : Launch) (V : xV) (Q : Int32 → xIt → xJt → xPt → Prop) (pc : Nat) (lv : List (Nat × xX)) (st : List xX) (I : xIt) (J : xJt) (P : xPt) : Prop := xG l V y_RF_listValues (xR 3 0 0) (xFn V y_RF_listValues (xR 3 0 0) (xPi Q)) pc lv st xS0 I J P (0, 0)
set_option maxRecDepth 20000 in
theorem b_RF_listValues_0 {l : Launch} {V : xV} {Q : Int32 → xIt → xJt → xPt → Prop} {I : xIt} {J : xJt} {P : xPt} (hL : xL P) {v1 : Int32} {v2 : Int32} (h : G_RF_listValues l V Q 10 [(0, xq (some 250)), (1, xi v1), (2, xi v2)] [] (xu (xu I 250 6 v1) 250 18 0) J P) : G_RF_listValues l V Q 0 [(0, xq (some 250)), (1, xi v1), (2, xi v2)] [] I J P := by
  refine xG_aload_n d_RF_listValues_0 rfl rfl rfl ?_
  refine xG_iload_n d_RF_listValues_1 rfl rfl ?_
  refine xG_puti d_RF_listValues_2 xf_RF_92 (Or.inl rfl) rfl s0_250 rfl rfl ?_
  refine xG_aload_n d_RF_listValues_5 rfl rfl rfl ?_
  refine xG_iconst (v := 0) d_RF_listValues_6 rfl ?_
  refine xG_puti d_RF_listValues_7 xf_RF_124 (Or.inl rfl) rfl s0_250 rfl rfl ?_
  exact h
set_option maxRecDepth 20000 in
theorem b_RF_listValues_10 {l : Launch} {V : xV} {Q : Int32 → xIt → xJt → xPt → Prop} {I : xIt} {J : xJt} {P : xPt} (hL : xL P) {v1 : Int32} {v2 : Int32} (h : ((v2 ≤ (I 250 6) → Q 1 I J P) ∧ (¬ v2 ≤ (I 250 6) → (∃ Q1 : Int32 → xIt → xJt → xPt → Prop, xMet l V y_RF_take 2 0 0 [xq (some 250), xi 4, xi 30, xi v2] xS0 I J P (xPi Q1) ∧ ∀ (z1 : Int32) (I1 : xIt) (J1 : xJt) (P1 : xPt), Q1 z1 I1 J1 P1 → ((z1 = 0 → Q 0 I1 J1 P1) ∧ (¬ z1 = 0 → ((¬ (I1 250 18) = 8 → (vp_in (I1 250 18) 8 ∧ (vp_in (I1 250 18) 8 ∧ G_RF_listValues l V Q 10 [(0, xq (some 250)), (1, xi v1), (2, xi v2)] [] (xu (xu (xu I1 252 ((I1 250 18).toNatClampNeg) (I1 250 4)) 253 ((I1 250 18).toNatClampNeg) (I1 250 5)) 250 18 ((I1 250 18) + 1)) J1 P1))) ∧ ((I1 250 18) = 8 → Q 0 I1 J1 P1)))))))) : G_RF_listValues l V Q 10 [(0, xq (some 250)), (1, xi v1), (2, xi v2)] [] I J P := by
  refine xG_aload_n d_RF_listValues_10 rfl rfl rfl ?_
  refine xG_geti d_RF_listValues_11 xf_RF_92 rfl s0_250 ?_
  refine xG_iload_n d_RF_listValues_14 rfl rfl ?_
  refine xG_icmp_ge (tgt := 79) d_RF_listValues_15 (by decide) (fun c => ?_) (fun c => ?_)
  · have h := h.1 c
    refine xG_iconst (v := 1) d_RF_listValues_79 rfl ?_
    exact xG_ireturn d_RF_listValues_80 rfl rfl ⟨rfl, hL, _, rfl, h⟩
  · have h := h.2 c
    refine xG_aload_n d_RF_listValues_18 rfl rfl rfl ?_
    refine xG_iconst (v := 4) d_RF_listValues_19 rfl ?_
    refine xG_bipush (v := 30) d_RF_listValues_20 rfl ?_
    refine xG_iload_n d_RF_listValues_22 rfl rfl ?_
    obtain ⟨Q1, hM, h⟩ := h
    refine xG_callv (as := [xi 4, xi 30, xi v2]) (rest := []) d_RF_listValues_23 yv_RF_take w4_191 rfl rfl rfl s0_250 (by decide) rfl hM ⟨by decide, by decide⟩ (Nat.le_of_ble_eq_true rfl) ⟨Nat.zero_le _, Nat.zero_le _⟩ (fun r S1 I1 J1 P1 hp => ?_)
    obtain ⟨rfl, hL1, z1, rfl, hq⟩ := hp
    have h := h z1 I1 J1 P1 hq
    refine xG_if_eq (tgt := 38) d_RF_listValues_26 (by decide) (fun c => ?_) (fun c => ?_)
    · have h := h.1 c
      refine xG_iconst (v := 0) d_RF_listValues_38 rfl ?_
      exact xG_ireturn d_RF_listValues_39 rfl rfl ⟨rfl, hL1, _, rfl, h⟩
    · have h := h.2 c
      refine xG_aload_n d_RF_listValues_29 rfl rfl rfl ?_
      refine xG_geti d_RF_listValues_30 xf_RF_124 rfl s0_250 ?_
      refine xG_bipush (v := 8) d_RF_listValues_33 rfl ?_
      refine xG_icmp_ne (tgt := 40) d_RF_listValues_35 (by decide) (fun c => ?_) (fun c => ?_)
      · have h := h.1 c
        refine xG_aload_n d_RF_listValues_40 rfl rfl rfl ?_
        refine xG_getq d_RF_listValues_41 xf_RF_13 rfl s0_250 ?_
        refine xG_aload_n d_RF_listValues_44 rfl rfl rfl ?_
        refine xG_geti d_RF_listValues_45 xf_RF_124 rfl s0_250 ?_
        refine xG_aload_n d_RF_listValues_48 rfl rfl rfl ?_
        refine xG_geti d_RF_listValues_49 xf_RF_86 rfl s0_250 ?_
        refine xG_iast d_RF_listValues_52 (lp_250_19 hL1) s0_252 h.1 ?_
        have h := h.2
        refine xG_aload_n d_RF_listValues_53 rfl rfl rfl ?_
        refine xG_getq d_RF_listValues_54 xf_RF_16 rfl s0_250 ?_
        refine xG_aload_n d_RF_listValues_57 rfl rfl rfl ?_
        refine xG_geti d_RF_listValues_58 xf_RF_124 rfl s0_250 ?_
        refine xG_topi (x' := I1 250 18) (by first | rfl | exact xu_at | simp [xu]) ?_
        refine xG_aload_n d_RF_listValues_61 rfl rfl rfl ?_
        refine xG_geti d_RF_listValues_62 xf_RF_89 rfl s0_250 ?_
        refine xG_topi (x' := I1 250 5) (by first | rfl | exact xu_at | simp [xu]) ?_
        refine xG_iast d_RF_listValues_65 (lp_250_20 hL1) s0_253 h.1 ?_
        have h := h.2
        refine xG_aload_n d_RF_listValues_66 rfl rfl rfl ?_
        refine xG_dup d_RF_listValues_67 rfl ?_
        refine xG_geti d_RF_listValues_68 xf_RF_124 rfl s0_250 ?_
        refine xG_topi (x' := I1 250 18) (by first | rfl | exact xu_at | simp [xu]) ?_
        refine xG_iconst (v := 1) d_RF_listValues_71 rfl ?_
        refine xG_iadd d_RF_listValues_72 ?_
        refine xG_puti d_RF_listValues_73 xf_RF_124 (Or.inl rfl) rfl s0_250 rfl rfl ?_
        refine xG_goto (tgt := 10) d_RF_listValues_76 (by decide) ?_
        exact h
      · have h := h.2 c
        refine xG_iconst (v := 0) d_RF_listValues_38 rfl ?_
        exact xG_ireturn d_RF_listValues_39 rfl rfl ⟨rfl, hL1, _, rfl, h⟩
theorem e_RF_listValues {l : Launch} {V : xV} {Q : Int32 → xIt → xJt → xPt → Prop} {I : xIt} {J : xJt} {P : xPt} {v1 : Int32} {v2 : Int32} (h : G_RF_listValues l V Q 0 [(0, xq (some 250)), (1, xi v1), (2, xi v2)] [] I J P) : xMet l V y_RF_listValues 3 0 0 [xq (some 250), xi v1, xi v2] xS0 I J P (xPi Q) := xMet_of (by decide) (Nat.le_of_ble_eq_true rfl) h

abbrev G_RF_formed (l : Launch) (V : xV) (Q : Int32 → xIt → xJt → xPt → Prop) (pc : Nat) (lv : List (Nat × xX)) (st : List xX) (I : xIt) (J : xJt) (P : xPt) : Prop := xG l V y_RF_formed (xR 5 0 0) (xFn V y_RF_formed (xR 5 0 0) (xPi Q)) pc lv st xS0 I J P (0, 0)
set_option maxRecDepth 20000 in
theorem b_RF_formed_0 {l : Launch} {V : xV} {Q : Int32 → xIt → xJt → xPt → Prop} {I : xIt} {J : xJt} {P : xPt} (hL : xL P) {v1 : Int32} {v2 : Int32} (h : (∃ Q1 : Int32 → xIt → xJt → xPt → Prop, xMet l V y_RF_integer 3 0 0 [xq (some 250), xi v2] xS0 (xu I 250 6 v1) J P (xPi Q1) ∧ ∀ (z1 : Int32) (I1 : xIt) (J1 : xJt) (P1 : xPt), Q1 z1 I1 J1 P1 → ((z1 = 0 → Q 0 I1 J1 P1) ∧ (¬ z1 = 0 → ((1 ≤ (I1 250 7) → (∃ Q2 : Int32 → xIt → xJt → xPt → Prop, xMet l V y_RF_tlv 1 0 0 [xq (some 250), xi (I1 250 6), xi v2] xS0 (xu I1 250 8 (I1 250 7)) J1 P1 (xPi Q2) ∧ ∀ (z2 : Int32) (I2 : xIt) (J2 : xJt) (P2 : xPt), Q2 z2 I2 J2 P2 → ((z2 = 0 → Q 0 I2 J2 P2) ∧ (¬ z2 = 0 → (((I2 250 5) = v2 → ((¬ (I2 250 3) = 66 → ((¬ (I2 250 3) = 74 → ((¬ (I2 250 3) = 96 → ((¬ (I2 250 3) = 110 → ((¬ (I2 250 3) = 104 → ((¬ (I2 250 3) = 102 → ((¬ (I2 250 3) = 108 → ((¬ (I2 250 3) = 99 → Q 0 (xu (xu I2 250 9 (I2 250 3)) 250 6 (I2 250 4)) J2 P2) ∧ ((I2 250 3) = 99 → (∃ Q3 : Int32 → xIt → xJt → xPt → Prop, xMet l V y_RF_searchForm 4 0 0 [xq (some 250), xi (I2 250 5)] xS0 (xu (xu I2 250 9 (I2 250 3)) 250 6 (I2 250 4)) J2 P2 (xPi Q3) ∧ ∀ (z3 : Int32) (I3 : xIt) (J3 : xJt) (P3 : xPt), Q3 z3 I3 J3 P3 → ((z3 = 0 → Q 0 I3 J3 P3) ∧ (¬ z3 = 0 → Q 1 I3 J3 P3)))))) ∧ ((I2 250 3) = 108 → (∃ Q4 : Int32 → xIt → xJt → xPt → Prop, xMet l V y_RF_renameForm 4 0 0 [xq (some 250), xi (I2 250 5)] xS0 (xu (xu I2 250 9 (I2 250 3)) 250 6 (I2 250 4)) J2 P2 (xPi Q4) ∧ ∀ (z4 : Int32) (I4 : xIt) (J4 : xJt) (P4 : xPt), Q4 z4 I4 J4 P4 → ((z4 = 0 → Q 0 I4 J4 P4) ∧ (¬ z4 = 0 → ((¬ (I4 250 6) = (I2 250 5) → Q 0 I4 J4 P4) ∧ ((I4 250 6) = (I2 250 5) → Q 1 I4 J4 P4)))))))) ∧ ((I2 250 3) = 102 → (∃ Q5 : Int32 → xIt → xJt → xPt → Prop, xMet l V y_RF_modifyForm 4 0 0 [xq (some 250), xi (I2 250 5)] xS0 (xu (xu I2 250 9 (I2 250 3)) 250 6 (I2 250 4)) J2 P2 (xPi Q5) ∧ ∀ (z5 : Int32) (I5 : xIt) (J5 : xJt) (P5 : xPt), Q5 z5 I5 J5 P5 → ((z5 = 0 ∨ z5 = 1) ∧ Q z5 I5 J5 P5))))) ∧ ((I2 250 3) = 104 → (∃ Q6 : Int32 → xIt → xJt → xPt → Prop, xMet l V y_RF_addForm 4 0 0 [xq (some 250), xi (I2 250 5)] xS0 (xu (xu I2 250 9 (I2 250 3)) 250 6 (I2 250 4)) J2 P2 (xPi Q6) ∧ ∀ (z6 : Int32) (I6 : xIt) (J6 : xJt) (P6 : xPt), Q6 z6 I6 J6 P6 → ((z6 = 0 ∨ z6 = 1) ∧ Q z6 I6 J6 P6))))) ∧ ((I2 250 3) = 110 → (∃ Q7 : Int32 → xIt → xJt → xPt → Prop, xMet l V y_RF_compareForm 4 0 0 [xq (some 250), xi (I2 250 5)] xS0 (xu (xu I2 250 9 (I2 250 3)) 250 6 (I2 250 4)) J2 P2 (xPi Q7) ∧ ∀ (z7 : Int32) (I7 : xIt) (J7 : xJt) (P7 : xPt), Q7 z7 I7 J7 P7 → ((z7 = 0 ∨ z7 = 1) ∧ Q z7 I7 J7 P7))))) ∧ ((I2 250 3) = 96 → (∃ Q8 : Int32 → xIt → xJt → xPt → Prop, xMet l V y_RF_bindForm 4 0 0 [xq (some 250), xi (I2 250 5)] xS0 (xu (xu I2 250 9 (I2 250 3)) 250 6 (I2 250 4)) J2 P2 (xPi Q8) ∧ ∀ (z8 : Int32) (I8 : xIt) (J8 : xJt) (P8 : xPt), Q8 z8 I8 J8 P8 → ((z8 = 0 → Q 0 I8 J8 P8) ∧ (¬ z8 = 0 → ((¬ (I8 250 6) = (I2 250 5) → Q 0 I8 J8 P8) ∧ ((I8 250 6) = (I2 250 5) → Q 1 I8 J8 P8)))))))) ∧ ((I2 250 3) = 74 → ((30 < ((I2 250 5) - (I2 250 4)) → Q 0 (xu (xu (xu (xu I2 250 9 (I2 250 3)) 250 6 (I2 250 4)) 250 12 (I2 250 4)) 250 13 (I2 250 5)) J2 P2) ∧ (¬ 30 < ((I2 250 5) - (I2 250 4)) → Q 1 (xu (xu (xu (xu I2 250 9 (I2 250 3)) 250 6 (I2 250 4)) 250 12 (I2 250 4)) 250 13 (I2 250 5)) J2 P2))))) ∧ ((I2 250 3) = 66 → ((¬ (I2 250 4) = (I2 250 5) → Q 0 (xu (xu I2 250 9 (I2 250 3)) 250 6 (I2 250 4)) J2 P2) ∧ ((I2 250 4) = (I2 250 5) → Q 1 (xu (xu I2 250 9 (I2 250 3)) 250 6 (I2 250 4)) J2 P2))))) ∧ (¬ (I2 250 5) = v2 → Q 0 I2 J2 P2)))))) ∧ (¬ 1 ≤ (I1 250 7) → Q 0 I1 J1 P1)))))) : G_RF_formed l V Q 0 [(0, xq (some 250)), (1, xi v1), (2, xi v2)] [] I J P := by
  refine xG_aload_n d_RF_formed_0 rfl rfl rfl ?_
  refine xG_iload_n d_RF_formed_1 rfl rfl ?_
  refine xG_puti d_RF_formed_2 xf_RF_92 (Or.inl rfl) rfl s0_250 rfl rfl ?_
  refine xG_aload_n d_RF_formed_5 rfl rfl rfl ?_
  refine xG_iload_n d_RF_formed_6 rfl rfl ?_
  obtain ⟨Q1, hM, h⟩ := h
  refine xG_callv (as := [xi v2]) (rest := []) d_RF_formed_7 yv_RF_integer w4_187 rfl rfl rfl s0_250 (by decide) rfl hM ⟨by decide, by decide⟩ (Nat.le_of_ble_eq_true rfl) ⟨Nat.zero_le _, Nat.zero_le _⟩ (fun r S1 I1 J1 P1 hp => ?_)
  obtain ⟨rfl, hL1, z1, rfl, hq⟩ := hp
  have h := h z1 I1 J1 P1 hq
  refine xG_if_eq (tgt := 21) d_RF_formed_10 (by decide) (fun c => ?_) (fun c => ?_)
  · have h := h.1 c
    refine xG_iconst (v := 0) d_RF_formed_21 rfl ?_
    exact xG_ireturn d_RF_formed_22 rfl rfl ⟨rfl, hL1, _, rfl, h⟩
  · have h := h.2 c
    refine xG_aload_n d_RF_formed_13 rfl rfl rfl ?_
    refine xG_geti d_RF_formed_14 xf_RF_103 rfl s0_250 ?_
    refine xG_iconst (v := 1) d_RF_formed_17 rfl ?_
    refine xG_icmp_ge (tgt := 23) d_RF_formed_18 (by decide) (fun c => ?_) (fun c => ?_)
    · have h := h.1 c
      refine xG_aload_n d_RF_formed_23 rfl rfl rfl ?_
      refine xG_aload_n d_RF_formed_24 rfl rfl rfl ?_
      refine xG_geti d_RF_formed_25 xf_RF_103 rfl s0_250 ?_
      refine xG_puti d_RF_formed_28 xf_RF_131 (Or.inl rfl) rfl s0_250 rfl rfl ?_
      refine xG_aload_n d_RF_formed_31 rfl rfl rfl ?_
      refine xG_aload_n d_RF_formed_32 rfl rfl rfl ?_
      refine xG_geti d_RF_formed_33 xf_RF_92 rfl s0_250 ?_
      refine xG_topi (x' := I1 250 6) (by first | rfl | exact xu_at | simp [xu]) ?_
      refine xG_iload_n d_RF_formed_36 rfl rfl ?_
      obtain ⟨Q2, hM, h⟩ := h
      refine xG_callv (as := [xi (I1 250 6), xi v2]) (rest := []) d_RF_formed_37 yv_RF_tlv w4_195 rfl rfl rfl s0_250 (by decide) rfl hM ⟨by decide, by decide⟩ (Nat.le_of_ble_eq_true rfl) ⟨Nat.zero_le _, Nat.zero_le _⟩ (fun r S2 I2 J2 P2 hp => ?_)
      obtain ⟨rfl, hL2, z2, rfl, hq⟩ := hp
      have h := h z2 I2 J2 P2 hq
      refine xG_if_eq (tgt := 51) d_RF_formed_40 (by decide) (fun c => ?_) (fun c => ?_)
      · have h := h.1 c
        refine xG_iconst (v := 0) d_RF_formed_51 rfl ?_
        exact xG_ireturn d_RF_formed_52 rfl rfl ⟨rfl, hL2, _, rfl, h⟩
      · have h := h.2 c
        refine xG_aload_n d_RF_formed_43 rfl rfl rfl ?_
        refine xG_geti d_RF_formed_44 xf_RF_89 rfl s0_250 ?_
        refine xG_iload_n d_RF_formed_47 rfl rfl ?_
        refine xG_icmp_eq (tgt := 53) d_RF_formed_48 (by decide) (fun c => ?_) (fun c => ?_)
        · have h := h.1 c
          refine xG_aload_n d_RF_formed_53 rfl rfl rfl ?_
          refine xG_aload_n d_RF_formed_54 rfl rfl rfl ?_
          refine xG_geti d_RF_formed_55 xf_RF_83 rfl s0_250 ?_
          refine xG_puti d_RF_formed_58 xf_RF_134 (Or.inl rfl) rfl s0_250 rfl rfl ?_
          refine xG_aload_n d_RF_formed_61 rfl rfl rfl ?_
          refine xG_geti d_RF_formed_62 xf_RF_89 rfl s0_250 ?_
          refine xG_topi (x' := I2 250 5) (by first | rfl | exact xu_at | simp [xu]) ?_
          refine xG_istore_n (lv' := [(3, xi (I2 250 5)), (0, xq (some 250)), (1, xi v1), (2, xi v2)]) d_RF_formed_65 rfl (Nat.le_of_ble_eq_true rfl) rfl ?_
          refine xG_aload_n d_RF_formed_66 rfl rfl rfl ?_
          refine xG_aload_n d_RF_formed_67 rfl rfl rfl ?_
          refine xG_geti d_RF_formed_68 xf_RF_86 rfl s0_250 ?_
          refine xG_topi (x' := I2 250 4) (by first | rfl | exact xu_at | simp [xu]) ?_
          refine xG_puti d_RF_formed_71 xf_RF_92 (Or.inl rfl) rfl s0_250 rfl rfl ?_
          refine xG_aload_n d_RF_formed_74 rfl rfl rfl ?_
          refine xG_geti d_RF_formed_75 xf_RF_134 rfl s0_250 ?_
          refine xG_topi (x' := I2 250 3) (by first | rfl | exact xu_at | simp [xu]) ?_
          refine xG_bipush (v := 66) d_RF_formed_78 rfl ?_
          refine xG_icmp_ne (tgt := 97) d_RF_formed_80 (by decide) (fun c => ?_) (fun c => ?_)
          · have h := h.1 c
            refine xG_aload_n d_RF_formed_97 rfl rfl rfl ?_
            refine xG_geti d_RF_formed_98 xf_RF_134 rfl s0_250 ?_
            refine xG_topi (x' := I2 250 3) (by first | rfl | exact xu_at | simp [xu]) ?_
            refine xG_bipush (v := 74) d_RF_formed_101 rfl ?_
            refine xG_icmp_ne (tgt := 139) d_RF_formed_103 (by decide) (fun c => ?_) (fun c => ?_)
            · have h := h.1 c
              refine xG_aload_n d_RF_formed_139 rfl rfl rfl ?_
              refine xG_geti d_RF_formed_140 xf_RF_134 rfl s0_250 ?_
              refine xG_topi (x' := I2 250 3) (by first | rfl | exact xu_at | simp [xu]) ?_
              refine xG_bipush (v := 96) d_RF_formed_143 rfl ?_
              refine xG_icmp_ne (tgt := 170) d_RF_formed_145 (by decide) (fun c => ?_) (fun c => ?_)
              · have h := h.1 c
                refine xG_aload_n d_RF_formed_170 rfl rfl rfl ?_
                refine xG_geti d_RF_formed_171 xf_RF_134 rfl s0_250 ?_
                refine xG_topi (x' := I2 250 3) (by first | rfl | exact xu_at | simp [xu]) ?_
                refine xG_bipush (v := 110) d_RF_formed_174 rfl ?_
                refine xG_icmp_ne (tgt := 185) d_RF_formed_176 (by decide) (fun c => ?_) (fun c => ?_)
                · have h := h.1 c
                  refine xG_aload_n d_RF_formed_185 rfl rfl rfl ?_
                  refine xG_geti d_RF_formed_186 xf_RF_134 rfl s0_250 ?_
                  refine xG_topi (x' := I2 250 3) (by first | rfl | exact xu_at | simp [xu]) ?_
                  refine xG_bipush (v := 104) d_RF_formed_189 rfl ?_
                  refine xG_icmp_ne (tgt := 200) d_RF_formed_191 (by decide) (fun c => ?_) (fun c => ?_)
                  · have h := h.1 c
                    refine xG_aload_n d_RF_formed_200 rfl rfl rfl ?_
                    refine xG_geti d_RF_formed_201 xf_RF_134 rfl s0_250 ?_
                    refine xG_topi (x' := I2 250 3) (by first | rfl | exact xu_at | simp [xu]) ?_
                    refine xG_bipush (v := 102) d_RF_formed_204 rfl ?_
                    refine xG_icmp_ne (tgt := 215) d_RF_formed_206 (by decide) (fun c => ?_) (fun c => ?_)
                    · have h := h.1 c
                      refine xG_aload_n d_RF_formed_215 rfl rfl rfl ?_
                      refine xG_geti d_RF_formed_216 xf_RF_134 rfl s0_250 ?_
                      refine xG_topi (x' := I2 250 3) (by first | rfl | exact xu_at | simp [xu]) ?_
                      refine xG_bipush (v := 108) d_RF_formed_219 rfl ?_
                      refine xG_icmp_ne (tgt := 246) d_RF_formed_221 (by decide) (fun c => ?_) (fun c => ?_)
                      · have h := h.1 c
                        refine xG_aload_n d_RF_formed_246 rfl rfl rfl ?_
                        refine xG_geti d_RF_formed_247 xf_RF_134 rfl s0_250 ?_
                        refine xG_topi (x' := I2 250 3) (by first | rfl | exact xu_at | simp [xu]) ?_
                        refine xG_bipush (v := 99) d_RF_formed_250 rfl ?_
                        refine xG_icmp_ne (tgt := 267) d_RF_formed_252 (by decide) (fun c => ?_) (fun c => ?_)
                        · have h := h.1 c
                          refine xG_iconst (v := 0) d_RF_formed_267 rfl ?_
                          exact xG_ireturn d_RF_formed_268 rfl rfl ⟨rfl, hL2, _, rfl, h⟩
                        · have h := h.2 c
                          refine xG_aload_n d_RF_formed_255 rfl rfl rfl ?_
                          refine xG_iload_n d_RF_formed_256 rfl rfl ?_
                          obtain ⟨Q3, hM, h⟩ := h
                          refine xG_callv (as := [xi (I2 250 5)]) (rest := []) d_RF_formed_257 yv_RF_searchForm w4_239 rfl rfl rfl s0_250 (by decide) rfl hM ⟨by decide, by decide⟩ (Nat.le_of_ble_eq_true rfl) ⟨Nat.zero_le _, Nat.zero_le _⟩ (fun r S3 I3 J3 P3 hp => ?_)
                          obtain ⟨rfl, hL3, z3, rfl, hq⟩ := hp
                          have h := h z3 I3 J3 P3 hq
                          refine xG_if_eq (tgt := 267) d_RF_formed_260 (by decide) (fun c => ?_) (fun c => ?_)
                          · have h := h.1 c
                            refine xG_iconst (v := 0) d_RF_formed_267 rfl ?_
                            exact xG_ireturn d_RF_formed_268 rfl rfl ⟨rfl, hL3, _, rfl, h⟩
                          · have h := h.2 c
                            refine xG_iconst (v := 1) d_RF_formed_263 rfl ?_
                            refine xG_goto (tgt := 268) d_RF_formed_264 (by decide) ?_
                            exact xG_ireturn d_RF_formed_268 rfl rfl ⟨rfl, hL3, _, rfl, h⟩
                      · have h := h.2 c
                        refine xG_aload_n d_RF_formed_224 rfl rfl rfl ?_
                        refine xG_iload_n d_RF_formed_225 rfl rfl ?_
                        obtain ⟨Q4, hM, h⟩ := h
                        refine xG_callv (as := [xi (I2 250 5)]) (rest := []) d_RF_formed_226 yv_RF_renameForm w4_235 rfl rfl rfl s0_250 (by decide) rfl hM ⟨by decide, by decide⟩ (Nat.le_of_ble_eq_true rfl) ⟨Nat.zero_le _, Nat.zero_le _⟩ (fun r S4 I4 J4 P4 hp => ?_)
                        obtain ⟨rfl, hL4, z4, rfl, hq⟩ := hp
                        have h := h z4 I4 J4 P4 hq
                        refine xG_if_eq (tgt := 244) d_RF_formed_229 (by decide) (fun c => ?_) (fun c => ?_)
                        · have h := h.1 c
                          refine xG_iconst (v := 0) d_RF_formed_244 rfl ?_
                          exact xG_ireturn d_RF_formed_245 rfl rfl ⟨rfl, hL4, _, rfl, h⟩
                        · have h := h.2 c
                          refine xG_aload_n d_RF_formed_232 rfl rfl rfl ?_
                          refine xG_geti d_RF_formed_233 xf_RF_92 rfl s0_250 ?_
                          refine xG_iload_n d_RF_formed_236 rfl rfl ?_
                          refine xG_icmp_ne (tgt := 244) d_RF_formed_237 (by decide) (fun c => ?_) (fun c => ?_)
                          · have h := h.1 c
                            refine xG_iconst (v := 0) d_RF_formed_244 rfl ?_
                            exact xG_ireturn d_RF_formed_245 rfl rfl ⟨rfl, hL4, _, rfl, h⟩
                          · have h := h.2 c
                            refine xG_iconst (v := 1) d_RF_formed_240 rfl ?_
                            refine xG_goto (tgt := 245) d_RF_formed_241 (by decide) ?_
                            exact xG_ireturn d_RF_formed_245 rfl rfl ⟨rfl, hL4, _, rfl, h⟩
                    · have h := h.2 c
                      refine xG_aload_n d_RF_formed_209 rfl rfl rfl ?_
                      refine xG_iload_n d_RF_formed_210 rfl rfl ?_
                      obtain ⟨Q5, hM, h⟩ := h
                      refine xG_callv (as := [xi (I2 250 5)]) (rest := []) d_RF_formed_211 yv_RF_modifyForm w4_227 rfl rfl rfl s0_250 (by decide) rfl hM ⟨by decide, by decide⟩ (Nat.le_of_ble_eq_true rfl) ⟨Nat.zero_le _, Nat.zero_le _⟩ (fun r S5 I5 J5 P5 hp => ?_)
                      obtain ⟨rfl, hL5, z5, rfl, hq⟩ := hp
                      have h := h z5 I5 J5 P5 hq
                      exact xG_ireturn d_RF_formed_214 rfl (x_nb h.1) ⟨rfl, hL5, _, rfl, h.2⟩
                  · have h := h.2 c
                    refine xG_aload_n d_RF_formed_194 rfl rfl rfl ?_
                    refine xG_iload_n d_RF_formed_195 rfl rfl ?_
                    obtain ⟨Q6, hM, h⟩ := h
                    refine xG_callv (as := [xi (I2 250 5)]) (rest := []) d_RF_formed_196 yv_RF_addForm w4_219 rfl rfl rfl s0_250 (by decide) rfl hM ⟨by decide, by decide⟩ (Nat.le_of_ble_eq_true rfl) ⟨Nat.zero_le _, Nat.zero_le _⟩ (fun r S6 I6 J6 P6 hp => ?_)
                    obtain ⟨rfl, hL6, z6, rfl, hq⟩ := hp
                    have h := h z6 I6 J6 P6 hq
                    exact xG_ireturn d_RF_formed_199 rfl (x_nb h.1) ⟨rfl, hL6, _, rfl, h.2⟩
                · have h := h.2 c
                  refine xG_aload_n d_RF_formed_179 rfl rfl rfl ?_
                  refine xG_iload_n d_RF_formed_180 rfl rfl ?_
                  obtain ⟨Q7, hM, h⟩ := h
                  refine xG_callv (as := [xi (I2 250 5)]) (rest := []) d_RF_formed_181 yv_RF_compareForm w4_211 rfl rfl rfl s0_250 (by decide) rfl hM ⟨by decide, by decide⟩ (Nat.le_of_ble_eq_true rfl) ⟨Nat.zero_le _, Nat.zero_le _⟩ (fun r S7 I7 J7 P7 hp => ?_)
                  obtain ⟨rfl, hL7, z7, rfl, hq⟩ := hp
                  have h := h z7 I7 J7 P7 hq
                  exact xG_ireturn d_RF_formed_184 rfl (x_nb h.1) ⟨rfl, hL7, _, rfl, h.2⟩
              · have h := h.2 c
                refine xG_aload_n d_RF_formed_148 rfl rfl rfl ?_
                refine xG_iload_n d_RF_formed_149 rfl rfl ?_
                obtain ⟨Q8, hM, h⟩ := h
                refine xG_callv (as := [xi (I2 250 5)]) (rest := []) d_RF_formed_150 yv_RF_bindForm w4_199 rfl rfl rfl s0_250 (by decide) rfl hM ⟨by decide, by decide⟩ (Nat.le_of_ble_eq_true rfl) ⟨Nat.zero_le _, Nat.zero_le _⟩ (fun r S8 I8 J8 P8 hp => ?_)
                obtain ⟨rfl, hL8, z8, rfl, hq⟩ := hp
                have h := h z8 I8 J8 P8 hq
                refine xG_if_eq (tgt := 168) d_RF_formed_153 (by decide) (fun c => ?_) (fun c => ?_)
                · have h := h.1 c
                  refine xG_iconst (v := 0) d_RF_formed_168 rfl ?_
                  exact xG_ireturn d_RF_formed_169 rfl rfl ⟨rfl, hL8, _, rfl, h⟩
                · have h := h.2 c
                  refine xG_aload_n d_RF_formed_156 rfl rfl rfl ?_
                  refine xG_geti d_RF_formed_157 xf_RF_92 rfl s0_250 ?_
                  refine xG_iload_n d_RF_formed_160 rfl rfl ?_
                  refine xG_icmp_ne (tgt := 168) d_RF_formed_161 (by decide) (fun c => ?_) (fun c => ?_)
                  · have h := h.1 c
                    refine xG_iconst (v := 0) d_RF_formed_168 rfl ?_
                    exact xG_ireturn d_RF_formed_169 rfl rfl ⟨rfl, hL8, _, rfl, h⟩
                  · have h := h.2 c
                    refine xG_iconst (v := 1) d_RF_formed_164 rfl ?_
                    refine xG_goto (tgt := 169) d_RF_formed_165 (by decide) ?_
                    exact xG_ireturn d_RF_formed_169 rfl rfl ⟨rfl, hL8, _, rfl, h⟩
            · have h := h.2 c
              refine xG_aload_n d_RF_formed_106 rfl rfl rfl ?_
              refine xG_aload_n d_RF_formed_107 rfl rfl rfl ?_
              refine xG_geti d_RF_formed_108 xf_RF_86 rfl s0_250 ?_
              refine xG_topi (x' := I2 250 4) (by first | rfl | exact xu_at | simp [xu]) ?_
              refine xG_puti d_RF_formed_111 xf_RF_106 (Or.inl rfl) rfl s0_250 rfl rfl ?_
              refine xG_aload_n d_RF_formed_114 rfl rfl rfl ?_
              refine xG_aload_n d_RF_formed_115 rfl rfl rfl ?_
              refine xG_geti d_RF_formed_116 xf_RF_89 rfl s0_250 ?_
              refine xG_topi (x' := I2 250 5) (by first | rfl | exact xu_at | simp [xu]) ?_
              refine xG_puti d_RF_formed_119 xf_RF_109 (Or.inl rfl) rfl s0_250 rfl rfl ?_
              refine xG_iload_n d_RF_formed_122 rfl rfl ?_
              refine xG_aload_n d_RF_formed_123 rfl rfl rfl ?_
              refine xG_geti d_RF_formed_124 xf_RF_86 rfl s0_250 ?_
              refine xG_topi (x' := I2 250 4) (by first | rfl | exact xu_at | simp [xu]) ?_
              refine xG_isub d_RF_formed_127 ?_
              refine xG_bipush (v := 30) d_RF_formed_128 rfl ?_
              refine xG_icmp_gt (tgt := 137) d_RF_formed_130 (by decide) (fun c => ?_) (fun c => ?_)
              · have h := h.1 c
                refine xG_iconst (v := 0) d_RF_formed_137 rfl ?_
                exact xG_ireturn d_RF_formed_138 rfl rfl ⟨rfl, hL2, _, rfl, h⟩
              · have h := h.2 c
                refine xG_iconst (v := 1) d_RF_formed_133 rfl ?_
                refine xG_goto (tgt := 138) d_RF_formed_134 (by decide) ?_
                exact xG_ireturn d_RF_formed_138 rfl rfl ⟨rfl, hL2, _, rfl, h⟩
          · have h := h.2 c
            refine xG_aload_n d_RF_formed_83 rfl rfl rfl ?_
            refine xG_geti d_RF_formed_84 xf_RF_92 rfl s0_250 ?_
            refine xG_topi (x' := I2 250 4) (by first | rfl | exact xu_at | simp [xu]) ?_
            refine xG_iload_n d_RF_formed_87 rfl rfl ?_
            refine xG_icmp_ne (tgt := 95) d_RF_formed_88 (by decide) (fun c => ?_) (fun c => ?_)
            · have h := h.1 c
              refine xG_iconst (v := 0) d_RF_formed_95 rfl ?_
              exact xG_ireturn d_RF_formed_96 rfl rfl ⟨rfl, hL2, _, rfl, h⟩
            · have h := h.2 c
              refine xG_iconst (v := 1) d_RF_formed_91 rfl ?_
              refine xG_goto (tgt := 96) d_RF_formed_92 (by decide) ?_
              exact xG_ireturn d_RF_formed_96 rfl rfl ⟨rfl, hL2, _, rfl, h⟩
        · have h := h.2 c
          refine xG_iconst (v := 0) d_RF_formed_51 rfl ?_
          exact xG_ireturn d_RF_formed_52 rfl rfl ⟨rfl, hL2, _, rfl, h⟩
    · have h := h.2 c
      refine xG_iconst (v := 0) d_RF_formed_21 rfl ?_
      exact xG_ireturn d_RF_formed_22 rfl rfl ⟨rfl, hL1, _, rfl, h⟩
theorem e_RF_formed {l : Launch} {V : xV} {Q : Int32 → xIt → xJt → xPt → Prop} {I : xIt} {J : xJt} {P : xPt} {v1 : Int32} {v2 : Int32} (h : G_RF_formed l V Q 0 [(0, xq (some 250)), (1, xi v1), (2, xi v2)] [] I J P) : xMet l V y_RF_formed 5 0 0 [xq (some 250), xi v1, xi v2] xS0 I J P (xPi Q) := xMet_of (by decide) (Nat.le_of_ble_eq_true rfl) h

abbrev G_RF_bindForm (l : Launch) (V : xV) (Q : Int32 → xIt → xJt → xPt → Prop) (pc : Nat) (lv : List (Nat × xX)) (st : List xX) (I : xIt) (J : xJt) (P : xPt) : Prop := xG l V y_RF_bindForm (xR 4 0 0) (xFn V y_RF_bindForm (xR 4 0 0) (xPi Q)) pc lv st xS0 I J P (0, 0)
set_option maxRecDepth 20000 in
theorem b_RF_bindForm_0 {l : Launch} {V : xV} {Q : Int32 → xIt → xJt → xPt → Prop} {I : xIt} {J : xJt} {P : xPt} (hL : xL P) {v1 : Int32} (h : (∃ Q1 : Int32 → xIt → xJt → xPt → Prop, xMet l V y_RF_integer 3 0 0 [xq (some 250), xi v1] xS0 I J P (xPi Q1) ∧ ∀ (z1 : Int32) (I1 : xIt) (J1 : xJt) (P1 : xPt), Q1 z1 I1 J1 P1 → ((¬ z1 = 0 → (∃ Q2 : Int32 → xIt → xJt → xPt → Prop, xMet l V y_RF_textA 3 0 0 [xq (some 250), xi v1] xS0 (xu I1 250 10 (I1 250 7)) J1 P1 (xPi Q2) ∧ ∀ (z2 : Int32) (I2 : xIt) (J2 : xJt) (P2 : xPt), Q2 z2 I2 J2 P2 → ((z2 = 0 → Q 0 I2 J2 P2) ∧ (¬ z2 = 0 → (∃ Q3 : Int32 → xIt → xJt → xPt → Prop, xMet l V y_RF_take 2 0 0 [xq (some 250), xi 128, xi 30, xi v1] xS0 I2 J2 P2 (xPi Q3) ∧ ∀ (z3 : Int32) (I3 : xIt) (J3 : xJt) (P3 : xPt), Q3 z3 I3 J3 P3 → ((z3 = 0 → Q 0 I3 J3 P3) ∧ (¬ z3 = 0 → (∃ Q4 : Int32 → xIt → xJt → xPt → Prop, xMet l V y_RF_keepC 1 0 0 [xq (some 250), xi 1] xS0 I3 J3 P3 (xPi Q4) ∧ ∀ (z4 : Int32) (I4 : xIt) (J4 : xJt) (P4 : xPt), Q4 z4 I4 J4 P4 → ((z4 = 0 → Q 0 I4 J4 P4) ∧ (¬ z4 = 0 → Q 1 I4 J4 P4)))))))))) ∧ (z1 = 0 → Q 0 I1 J1 P1)))) : G_RF_bindForm l V Q 0 [(0, xq (some 250)), (1, xi v1)] [] I J P := by
  refine xG_aload_n d_RF_bindForm_0 rfl rfl rfl ?_
  refine xG_iload_n d_RF_bindForm_1 rfl rfl ?_
  obtain ⟨Q1, hM, h⟩ := h
  refine xG_callv (as := [xi v1]) (rest := []) d_RF_bindForm_2 yv_RF_integer w4_187 rfl rfl rfl s0_250 (by decide) rfl hM ⟨by decide, by decide⟩ (Nat.le_of_ble_eq_true rfl) ⟨Nat.zero_le _, Nat.zero_le _⟩ (fun r S1 I1 J1 P1 hp => ?_)
  obtain ⟨rfl, hL1, z1, rfl, hq⟩ := hp
  have h := h z1 I1 J1 P1 hq
  refine xG_if_ne (tgt := 10) d_RF_bindForm_5 (by decide) (fun c => ?_) (fun c => ?_)
  · have h := h.1 c
    refine xG_aload_n d_RF_bindForm_10 rfl rfl rfl ?_
    refine xG_aload_n d_RF_bindForm_11 rfl rfl rfl ?_
    refine xG_geti d_RF_bindForm_12 xf_RF_103 rfl s0_250 ?_
    refine xG_puti d_RF_bindForm_15 xf_RF_155 (Or.inl rfl) rfl s0_250 rfl rfl ?_
    refine xG_aload_n d_RF_bindForm_18 rfl rfl rfl ?_
    refine xG_iload_n d_RF_bindForm_19 rfl rfl ?_
    obtain ⟨Q2, hM, h⟩ := h
    refine xG_callv (as := [xi v1]) (rest := []) d_RF_bindForm_20 yv_RF_textA w4_203 rfl rfl rfl s0_250 (by decide) rfl hM ⟨by decide, by decide⟩ (Nat.le_of_ble_eq_true rfl) ⟨Nat.zero_le _, Nat.zero_le _⟩ (fun r S2 I2 J2 P2 hp => ?_)
    obtain ⟨rfl, hL2, z2, rfl, hq⟩ := hp
    have h := h z2 I2 J2 P2 hq
    refine xG_if_eq (tgt := 51) d_RF_bindForm_23 (by decide) (fun c => ?_) (fun c => ?_)
    · have h := h.1 c
      refine xG_iconst (v := 0) d_RF_bindForm_51 rfl ?_
      exact xG_ireturn d_RF_bindForm_52 rfl rfl ⟨rfl, hL2, _, rfl, h⟩
    · have h := h.2 c
      refine xG_aload_n d_RF_bindForm_26 rfl rfl rfl ?_
      refine xG_sipush (v := 128) d_RF_bindForm_27 rfl ?_
      refine xG_bipush (v := 30) d_RF_bindForm_30 rfl ?_
      refine xG_iload_n d_RF_bindForm_32 rfl rfl ?_
      obtain ⟨Q3, hM, h⟩ := h
      refine xG_callv (as := [xi 128, xi 30, xi v1]) (rest := []) d_RF_bindForm_33 yv_RF_take w4_191 rfl rfl rfl s0_250 (by decide) rfl hM ⟨by decide, by decide⟩ (Nat.le_of_ble_eq_true rfl) ⟨Nat.zero_le _, Nat.zero_le _⟩ (fun r S3 I3 J3 P3 hp => ?_)
      obtain ⟨rfl, hL3, z3, rfl, hq⟩ := hp
      have h := h z3 I3 J3 P3 hq
      refine xG_if_eq (tgt := 51) d_RF_bindForm_36 (by decide) (fun c => ?_) (fun c => ?_)
      · have h := h.1 c
        refine xG_iconst (v := 0) d_RF_bindForm_51 rfl ?_
        exact xG_ireturn d_RF_bindForm_52 rfl rfl ⟨rfl, hL3, _, rfl, h⟩
      · have h := h.2 c
        refine xG_aload_n d_RF_bindForm_39 rfl rfl rfl ?_
        refine xG_iconst (v := 1) d_RF_bindForm_40 rfl ?_
        obtain ⟨Q4, hM, h⟩ := h
        refine xG_callv (as := [xi 1]) (rest := []) d_RF_bindForm_41 yv_RF_keepC w4_207 rfl rfl rfl s0_250 (by decide) rfl hM ⟨by decide, by decide⟩ (Nat.le_of_ble_eq_true rfl) ⟨Nat.zero_le _, Nat.zero_le _⟩ (fun r S4 I4 J4 P4 hp => ?_)
        obtain ⟨rfl, hL4, z4, rfl, hq⟩ := hp
        have h := h z4 I4 J4 P4 hq
        refine xG_if_eq (tgt := 51) d_RF_bindForm_44 (by decide) (fun c => ?_) (fun c => ?_)
        · have h := h.1 c
          refine xG_iconst (v := 0) d_RF_bindForm_51 rfl ?_
          exact xG_ireturn d_RF_bindForm_52 rfl rfl ⟨rfl, hL4, _, rfl, h⟩
        · have h := h.2 c
          refine xG_iconst (v := 1) d_RF_bindForm_47 rfl ?_
          refine xG_goto (tgt := 52) d_RF_bindForm_48 (by decide) ?_
          exact xG_ireturn d_RF_bindForm_52 rfl rfl ⟨rfl, hL4, _, rfl, h⟩
  · have h := h.2 c
    refine xG_iconst (v := 0) d_RF_bindForm_8 rfl ?_
    exact xG_ireturn d_RF_bindForm_9 rfl rfl ⟨rfl, hL1, _, rfl, h⟩
theorem e_RF_bindForm {l : Launch} {V : xV} {Q : Int32 → xIt → xJt → xPt → Prop} {I : xIt} {J : xJt} {P : xPt} {v1 : Int32} (h : G_RF_bindForm l V Q 0 [(0, xq (some 250)), (1, xi v1)] [] I J P) : xMet l V y_RF_bindForm 4 0 0 [xq (some 250), xi v1] xS0 I J P (xPi Q) := xMet_of (by decide) (Nat.le_of_ble_eq_true rfl) h

abbrev G_RF_compareForm (l : Launch) (V : xV) (Q : Int32 → xIt → xJt → xPt → Prop) (pc : Nat) (lv : List (Nat × xX)) (st : List xX) (I : xIt) (J : xJt) (P : xPt) : Prop := xG l V y_RF_compareForm (xR 4 0 0) (xFn V y_RF_compareForm (xR 4 0 0) (xPi Q)) pc lv st xS0 I J P (0, 0)
set_option maxRecDepth 20000 in
theorem b_RF_compareForm_0 {l : Launch} {V : xV} {Q : Int32 → xIt → xJt → xPt → Prop} {I : xIt} {J : xJt} {P : xPt} (hL : xL P) {v1 : Int32} (h : (∃ Q1 : Int32 → xIt → xJt → xPt → Prop, xMet l V y_RF_textA 3 0 0 [xq (some 250), xi v1] xS0 I J P (xPi Q1) ∧ ∀ (z1 : Int32) (I1 : xIt) (J1 : xJt) (P1 : xPt), Q1 z1 I1 J1 P1 → ((z1 = 0 → Q 0 I1 J1 P1) ∧ (¬ z1 = 0 → (∃ Q2 : Int32 → xIt → xJt → xPt → Prop, xMet l V y_RF_take 2 0 0 [xq (some 250), xi 48, xi 255, xi v1] xS0 I1 J1 P1 (xPi Q2) ∧ ∀ (z2 : Int32) (I2 : xIt) (J2 : xJt) (P2 : xPt), Q2 z2 I2 J2 P2 → ((z2 = 0 → Q 0 I2 J2 P2) ∧ (¬ z2 = 0 → (((I2 250 6) = v1 → (∃ Q3 : Int32 → xIt → xJt → xPt → Prop, xMet l V y_RF_textB 3 0 0 [xq (some 250), xi v1] xS0 (xu I2 250 6 (I2 250 4)) J2 P2 (xPi Q3) ∧ ∀ (z3 : Int32) (I3 : xIt) (J3 : xJt) (P3 : xPt), Q3 z3 I3 J3 P3 → ((z3 = 0 → Q 0 I3 J3 P3) ∧ (¬ z3 = 0 → (∃ Q4 : Int32 → xIt → xJt → xPt → Prop, xMet l V y_RF_take 2 0 0 [xq (some 250), xi 4, xi 30, xi v1] xS0 I3 J3 P3 (xPi Q4) ∧ ∀ (z4 : Int32) (I4 : xIt) (J4 : xJt) (P4 : xPt), Q4 z4 I4 J4 P4 → ((z4 = 0 → Q 0 I4 J4 P4) ∧ (¬ z4 = 0 → (∃ Q5 : Int32 → xIt → xJt → xPt → Prop, xMet l V y_RF_keepC 1 0 0 [xq (some 250), xi 1] xS0 I4 J4 P4 (xPi Q5) ∧ ∀ (z5 : Int32) (I5 : xIt) (J5 : xJt) (P5 : xPt), Q5 z5 I5 J5 P5 → ((z5 = 0 → Q 0 I5 J5 P5) ∧ (¬ z5 = 0 → ((¬ (I5 250 6) = v1 → Q 0 I5 J5 P5) ∧ ((I5 250 6) = v1 → Q 1 I5 J5 P5)))))))))))) ∧ (¬ (I2 250 6) = v1 → Q 0 I2 J2 P2))))))))) : G_RF_compareForm l V Q 0 [(0, xq (some 250)), (1, xi v1)] [] I J P := by
  refine xG_aload_n d_RF_compareForm_0 rfl rfl rfl ?_
  refine xG_iload_n d_RF_compareForm_1 rfl rfl ?_
  obtain ⟨Q1, hM, h⟩ := h
  refine xG_callv (as := [xi v1]) (rest := []) d_RF_compareForm_2 yv_RF_textA w4_203 rfl rfl rfl s0_250 (by decide) rfl hM ⟨by decide, by decide⟩ (Nat.le_of_ble_eq_true rfl) ⟨Nat.zero_le _, Nat.zero_le _⟩ (fun r S1 I1 J1 P1 hp => ?_)
  obtain ⟨rfl, hL1, z1, rfl, hq⟩ := hp
  have h := h z1 I1 J1 P1 hq
  refine xG_if_eq (tgt := 29) d_RF_compareForm_5 (by decide) (fun c => ?_) (fun c => ?_)
  · have h := h.1 c
    refine xG_iconst (v := 0) d_RF_compareForm_29 rfl ?_
    exact xG_ireturn d_RF_compareForm_30 rfl rfl ⟨rfl, hL1, _, rfl, h⟩
  · have h := h.2 c
    refine xG_aload_n d_RF_compareForm_8 rfl rfl rfl ?_
    refine xG_bipush (v := 48) d_RF_compareForm_9 rfl ?_
    refine xG_sipush (v := 255) d_RF_compareForm_11 rfl ?_
    refine xG_iload_n d_RF_compareForm_14 rfl rfl ?_
    obtain ⟨Q2, hM, h⟩ := h
    refine xG_callv (as := [xi 48, xi 255, xi v1]) (rest := []) d_RF_compareForm_15 yv_RF_take w4_191 rfl rfl rfl s0_250 (by decide) rfl hM ⟨by decide, by decide⟩ (Nat.le_of_ble_eq_true rfl) ⟨Nat.zero_le _, Nat.zero_le _⟩ (fun r S2 I2 J2 P2 hp => ?_)
    obtain ⟨rfl, hL2, z2, rfl, hq⟩ := hp
    have h := h z2 I2 J2 P2 hq
    refine xG_if_eq (tgt := 29) d_RF_compareForm_18 (by decide) (fun c => ?_) (fun c => ?_)
    · have h := h.1 c
      refine xG_iconst (v := 0) d_RF_compareForm_29 rfl ?_
      exact xG_ireturn d_RF_compareForm_30 rfl rfl ⟨rfl, hL2, _, rfl, h⟩
    · have h := h.2 c
      refine xG_aload_n d_RF_compareForm_21 rfl rfl rfl ?_
      refine xG_geti d_RF_compareForm_22 xf_RF_92 rfl s0_250 ?_
      refine xG_iload_n d_RF_compareForm_25 rfl rfl ?_
      refine xG_icmp_eq (tgt := 31) d_RF_compareForm_26 (by decide) (fun c => ?_) (fun c => ?_)
      · have h := h.1 c
        refine xG_aload_n d_RF_compareForm_31 rfl rfl rfl ?_
        refine xG_aload_n d_RF_compareForm_32 rfl rfl rfl ?_
        refine xG_geti d_RF_compareForm_33 xf_RF_86 rfl s0_250 ?_
        refine xG_puti d_RF_compareForm_36 xf_RF_92 (Or.inl rfl) rfl s0_250 rfl rfl ?_
        refine xG_aload_n d_RF_compareForm_39 rfl rfl rfl ?_
        refine xG_iload_n d_RF_compareForm_40 rfl rfl ?_
        obtain ⟨Q3, hM, h⟩ := h
        refine xG_callv (as := [xi v1]) (rest := []) d_RF_compareForm_41 yv_RF_textB w4_215 rfl rfl rfl s0_250 (by decide) rfl hM ⟨by decide, by decide⟩ (Nat.le_of_ble_eq_true rfl) ⟨Nat.zero_le _, Nat.zero_le _⟩ (fun r S3 I3 J3 P3 hp => ?_)
        obtain ⟨rfl, hL3, z3, rfl, hq⟩ := hp
        have h := h z3 I3 J3 P3 hq
        refine xG_if_eq (tgt := 78) d_RF_compareForm_44 (by decide) (fun c => ?_) (fun c => ?_)
        · have h := h.1 c
          refine xG_iconst (v := 0) d_RF_compareForm_78 rfl ?_
          exact xG_ireturn d_RF_compareForm_79 rfl rfl ⟨rfl, hL3, _, rfl, h⟩
        · have h := h.2 c
          refine xG_aload_n d_RF_compareForm_47 rfl rfl rfl ?_
          refine xG_iconst (v := 4) d_RF_compareForm_48 rfl ?_
          refine xG_bipush (v := 30) d_RF_compareForm_49 rfl ?_
          refine xG_iload_n d_RF_compareForm_51 rfl rfl ?_
          obtain ⟨Q4, hM, h⟩ := h
          refine xG_callv (as := [xi 4, xi 30, xi v1]) (rest := []) d_RF_compareForm_52 yv_RF_take w4_191 rfl rfl rfl s0_250 (by decide) rfl hM ⟨by decide, by decide⟩ (Nat.le_of_ble_eq_true rfl) ⟨Nat.zero_le _, Nat.zero_le _⟩ (fun r S4 I4 J4 P4 hp => ?_)
          obtain ⟨rfl, hL4, z4, rfl, hq⟩ := hp
          have h := h z4 I4 J4 P4 hq
          refine xG_if_eq (tgt := 78) d_RF_compareForm_55 (by decide) (fun c => ?_) (fun c => ?_)
          · have h := h.1 c
            refine xG_iconst (v := 0) d_RF_compareForm_78 rfl ?_
            exact xG_ireturn d_RF_compareForm_79 rfl rfl ⟨rfl, hL4, _, rfl, h⟩
          · have h := h.2 c
            refine xG_aload_n d_RF_compareForm_58 rfl rfl rfl ?_
            refine xG_iconst (v := 1) d_RF_compareForm_59 rfl ?_
            obtain ⟨Q5, hM, h⟩ := h
            refine xG_callv (as := [xi 1]) (rest := []) d_RF_compareForm_60 yv_RF_keepC w4_207 rfl rfl rfl s0_250 (by decide) rfl hM ⟨by decide, by decide⟩ (Nat.le_of_ble_eq_true rfl) ⟨Nat.zero_le _, Nat.zero_le _⟩ (fun r S5 I5 J5 P5 hp => ?_)
            obtain ⟨rfl, hL5, z5, rfl, hq⟩ := hp
            have h := h z5 I5 J5 P5 hq
            refine xG_if_eq (tgt := 78) d_RF_compareForm_63 (by decide) (fun c => ?_) (fun c => ?_)
            · have h := h.1 c
              refine xG_iconst (v := 0) d_RF_compareForm_78 rfl ?_
              exact xG_ireturn d_RF_compareForm_79 rfl rfl ⟨rfl, hL5, _, rfl, h⟩
            · have h := h.2 c
              refine xG_aload_n d_RF_compareForm_66 rfl rfl rfl ?_
              refine xG_geti d_RF_compareForm_67 xf_RF_92 rfl s0_250 ?_
              refine xG_iload_n d_RF_compareForm_70 rfl rfl ?_
              refine xG_icmp_ne (tgt := 78) d_RF_compareForm_71 (by decide) (fun c => ?_) (fun c => ?_)
              · have h := h.1 c
                refine xG_iconst (v := 0) d_RF_compareForm_78 rfl ?_
                exact xG_ireturn d_RF_compareForm_79 rfl rfl ⟨rfl, hL5, _, rfl, h⟩
              · have h := h.2 c
                refine xG_iconst (v := 1) d_RF_compareForm_74 rfl ?_
                refine xG_goto (tgt := 79) d_RF_compareForm_75 (by decide) ?_
                exact xG_ireturn d_RF_compareForm_79 rfl rfl ⟨rfl, hL5, _, rfl, h⟩
      · have h := h.2 c
        refine xG_iconst (v := 0) d_RF_compareForm_29 rfl ?_
        exact xG_ireturn d_RF_compareForm_30 rfl rfl ⟨rfl, hL2, _, rfl, h⟩
theorem e_RF_compareForm {l : Launch} {V : xV} {Q : Int32 → xIt → xJt → xPt → Prop} {I : xIt} {J : xJt} {P : xPt} {v1 : Int32} (h : G_RF_compareForm l V Q 0 [(0, xq (some 250)), (1, xi v1)] [] I J P) : xMet l V y_RF_compareForm 4 0 0 [xq (some 250), xi v1] xS0 I J P (xPi Q) := xMet_of (by decide) (Nat.le_of_ble_eq_true rfl) h

abbrev G_RF_addForm (l : Launch) (V : xV) (Q : Int32 → xIt → xJt → xPt → Prop) (pc : Nat) (lv : List (Nat × xX)) (st : List xX) (I : xIt) (J : xJt) (P : xPt) : Prop := xG l V y_RF_addForm (xR 4 0 0) (xFn V y_RF_addForm (xR 4 0 0) (xPi Q)) pc lv st xS0 I J P (0, 0)
set_option maxRecDepth 20000 in
theorem b_RF_addForm_0 {l : Launch} {V : xV} {Q : Int32 → xIt → xJt → xPt → Prop} {I : xIt} {J : xJt} {P : xPt} (hL : xL P) {v1 : Int32} (h : (∃ Q1 : Int32 → xIt → xJt → xPt → Prop, xMet l V y_RF_textA 3 0 0 [xq (some 250), xi v1] xS0 I J P (xPi Q1) ∧ ∀ (z1 : Int32) (I1 : xIt) (J1 : xJt) (P1 : xPt), Q1 z1 I1 J1 P1 → ((z1 = 0 → Q 0 I1 J1 P1) ∧ (¬ z1 = 0 → (∃ Q2 : Int32 → xIt → xJt → xPt → Prop, xMet l V y_RF_take 2 0 0 [xq (some 250), xi 48, xi 255, xi v1] xS0 I1 J1 P1 (xPi Q2) ∧ ∀ (z2 : Int32) (I2 : xIt) (J2 : xJt) (P2 : xPt), Q2 z2 I2 J2 P2 → ((z2 = 0 → Q 0 I2 J2 P2) ∧ (¬ z2 = 0 → (((I2 250 6) = v1 → G_RF_addForm l V Q 52 [(0, xq (some 250)), (1, xi v1), (2, xi (I2 250 4))] [] (xu (xu I2 250 16 (I2 250 4)) 250 17 (I2 250 5)) J2 P2) ∧ (¬ (I2 250 6) = v1 → Q 0 I2 J2 P2))))))))) : G_RF_addForm l V Q 0 [(0, xq (some 250)), (1, xi v1)] [] I J P := by
  refine xG_aload_n d_RF_addForm_0 rfl rfl rfl ?_
  refine xG_iload_n d_RF_addForm_1 rfl rfl ?_
  obtain ⟨Q1, hM, h⟩ := h
  refine xG_callv (as := [xi v1]) (rest := []) d_RF_addForm_2 yv_RF_textA w4_203 rfl rfl rfl s0_250 (by decide) rfl hM ⟨by decide, by decide⟩ (Nat.le_of_ble_eq_true rfl) ⟨Nat.zero_le _, Nat.zero_le _⟩ (fun r S1 I1 J1 P1 hp => ?_)
  obtain ⟨rfl, hL1, z1, rfl, hq⟩ := hp
  have h := h z1 I1 J1 P1 hq
  refine xG_if_eq (tgt := 29) d_RF_addForm_5 (by decide) (fun c => ?_) (fun c => ?_)
  · have h := h.1 c
    refine xG_iconst (v := 0) d_RF_addForm_29 rfl ?_
    exact xG_ireturn d_RF_addForm_30 rfl rfl ⟨rfl, hL1, _, rfl, h⟩
  · have h := h.2 c
    refine xG_aload_n d_RF_addForm_8 rfl rfl rfl ?_
    refine xG_bipush (v := 48) d_RF_addForm_9 rfl ?_
    refine xG_sipush (v := 255) d_RF_addForm_11 rfl ?_
    refine xG_iload_n d_RF_addForm_14 rfl rfl ?_
    obtain ⟨Q2, hM, h⟩ := h
    refine xG_callv (as := [xi 48, xi 255, xi v1]) (rest := []) d_RF_addForm_15 yv_RF_take w4_191 rfl rfl rfl s0_250 (by decide) rfl hM ⟨by decide, by decide⟩ (Nat.le_of_ble_eq_true rfl) ⟨Nat.zero_le _, Nat.zero_le _⟩ (fun r S2 I2 J2 P2 hp => ?_)
    obtain ⟨rfl, hL2, z2, rfl, hq⟩ := hp
    have h := h z2 I2 J2 P2 hq
    refine xG_if_eq (tgt := 29) d_RF_addForm_18 (by decide) (fun c => ?_) (fun c => ?_)
    · have h := h.1 c
      refine xG_iconst (v := 0) d_RF_addForm_29 rfl ?_
      exact xG_ireturn d_RF_addForm_30 rfl rfl ⟨rfl, hL2, _, rfl, h⟩
    · have h := h.2 c
      refine xG_aload_n d_RF_addForm_21 rfl rfl rfl ?_
      refine xG_geti d_RF_addForm_22 xf_RF_92 rfl s0_250 ?_
      refine xG_iload_n d_RF_addForm_25 rfl rfl ?_
      refine xG_icmp_eq (tgt := 31) d_RF_addForm_26 (by decide) (fun c => ?_) (fun c => ?_)
      · have h := h.1 c
        refine xG_aload_n d_RF_addForm_31 rfl rfl rfl ?_
        refine xG_geti d_RF_addForm_32 xf_RF_86 rfl s0_250 ?_
        refine xG_istore_n (lv' := [(2, xi (I2 250 4)), (0, xq (some 250)), (1, xi v1)]) d_RF_addForm_35 rfl (Nat.le_of_ble_eq_true rfl) rfl ?_
        refine xG_aload_n d_RF_addForm_36 rfl rfl rfl ?_
        refine xG_aload_n d_RF_addForm_37 rfl rfl rfl ?_
        refine xG_geti d_RF_addForm_38 xf_RF_86 rfl s0_250 ?_
        refine xG_puti d_RF_addForm_41 xf_RF_118 (Or.inl rfl) rfl s0_250 rfl rfl ?_
        refine xG_aload_n d_RF_addForm_44 rfl rfl rfl ?_
        refine xG_aload_n d_RF_addForm_45 rfl rfl rfl ?_
        refine xG_geti d_RF_addForm_46 xf_RF_89 rfl s0_250 ?_
        refine xG_topi (x' := I2 250 5) (by first | rfl | exact xu_at | simp [xu]) ?_
        refine xG_puti d_RF_addForm_49 xf_RF_121 (Or.inl rfl) rfl s0_250 rfl rfl ?_
        refine xG_pick [1, 2, 0] rfl ?_
        exact h
      · have h := h.2 c
        refine xG_iconst (v := 0) d_RF_addForm_29 rfl ?_
        exact xG_ireturn d_RF_addForm_30 rfl rfl ⟨rfl, hL2, _, rfl, h⟩
set_option maxRecDepth 20000 in
theorem b_RF_addForm_52 {l : Launch} {V : xV} {Q : Int32 → xIt → xJt → xPt → Prop} {I : xIt} {J : xJt} {P : xPt} (hL : xL P) {v1 : Int32} {v2 : Int32} (h : ((v1 ≤ v2 → Q 1 I J P) ∧ (¬ v1 ≤ v2 → (∃ Q1 : Int32 → xIt → xJt → xPt → Prop, xMet l V y_RF_take 2 0 0 [xq (some 250), xi 48, xi 255, xi v1] xS0 (xu I 250 6 v2) J P (xPi Q1) ∧ ∀ (z1 : Int32) (I1 : xIt) (J1 : xJt) (P1 : xPt), Q1 z1 I1 J1 P1 → ((¬ z1 = 0 → (∃ Q2 : Int32 → xIt → xJt → xPt → Prop, xMet l V y_RF_textB 3 0 0 [xq (some 250), xi (I1 250 6)] xS0 (xu I1 250 6 (I1 250 4)) J1 P1 (xPi Q2) ∧ ∀ (z2 : Int32) (I2 : xIt) (J2 : xJt) (P2 : xPt), Q2 z2 I2 J2 P2 → ((z2 = 0 → Q 0 I2 J2 P2) ∧ (¬ z2 = 0 → (∃ Q3 : Int32 → xIt → xJt → xPt → Prop, xMet l V y_RF_take 2 0 0 [xq (some 250), xi 49, xi 255, xi (I1 250 6)] xS0 I2 J2 P2 (xPi Q3) ∧ ∀ (z3 : Int32) (I3 : xIt) (J3 : xJt) (P3 : xPt), Q3 z3 I3 J3 P3 → ((z3 = 0 → Q 0 I3 J3 P3) ∧ (¬ z3 = 0 → ((¬ (I3 250 6) = (I1 250 6) → Q 0 I3 J3 P3) ∧ ((I3 250 6) = (I1 250 6) → ((¬ (I3 250 4) = (I3 250 5) → (∃ Q4 : Int32 → xIt → xJt → xPt → Prop, xMet l V y_RF_listValues 3 0 0 [xq (some 250), xi (I3 250 4), xi (I1 250 6)] xS0 I3 J3 P3 (xPi Q4) ∧ ∀ (z4 : Int32) (I4 : xIt) (J4 : xJt) (P4 : xPt), Q4 z4 I4 J4 P4 → ((¬ z4 = 0 → G_RF_addForm l V Q 52 [(0, xq (some 250)), (1, xi v1), (2, xi (I1 250 6))] [] I4 J4 P4) ∧ (z4 = 0 → Q 0 I4 J4 P4)))) ∧ ((I3 250 4) = (I3 250 5) → Q 0 I3 J3 P3))))))))))) ∧ (z1 = 0 → Q 0 I1 J1 P1)))))) : G_RF_addForm l V Q 52 [(0, xq (some 250)), (1, xi v1), (2, xi v2)] [] I J P := by
  refine xG_iload_n d_RF_addForm_52 rfl rfl ?_
  refine xG_iload_n d_RF_addForm_53 rfl rfl ?_
  refine xG_icmp_ge (tgt := 151) d_RF_addForm_54 (by decide) (fun c => ?_) (fun c => ?_)
  · have h := h.1 c
    refine xG_iconst (v := 1) d_RF_addForm_151 rfl ?_
    exact xG_ireturn d_RF_addForm_152 rfl rfl ⟨rfl, hL, _, rfl, h⟩
  · have h := h.2 c
    refine xG_aload_n d_RF_addForm_57 rfl rfl rfl ?_
    refine xG_iload_n d_RF_addForm_58 rfl rfl ?_
    refine xG_puti d_RF_addForm_59 xf_RF_92 (Or.inl rfl) rfl s0_250 rfl rfl ?_
    refine xG_aload_n d_RF_addForm_62 rfl rfl rfl ?_
    refine xG_bipush (v := 48) d_RF_addForm_63 rfl ?_
    refine xG_sipush (v := 255) d_RF_addForm_65 rfl ?_
    refine xG_iload_n d_RF_addForm_68 rfl rfl ?_
    obtain ⟨Q1, hM, h⟩ := h
    refine xG_callv (as := [xi 48, xi 255, xi v1]) (rest := []) d_RF_addForm_69 yv_RF_take w4_191 rfl rfl rfl s0_250 (by decide) rfl hM ⟨by decide, by decide⟩ (Nat.le_of_ble_eq_true rfl) ⟨Nat.zero_le _, Nat.zero_le _⟩ (fun r S1 I1 J1 P1 hp => ?_)
    obtain ⟨rfl, hL1, z1, rfl, hq⟩ := hp
    have h := h z1 I1 J1 P1 hq
    refine xG_if_ne (tgt := 77) d_RF_addForm_72 (by decide) (fun c => ?_) (fun c => ?_)
    · have h := h.1 c
      refine xG_aload_n d_RF_addForm_77 rfl rfl rfl ?_
      refine xG_geti d_RF_addForm_78 xf_RF_92 rfl s0_250 ?_
      refine xG_istore_n (lv' := [(3, xi (I1 250 6)), (0, xq (some 250)), (1, xi v1), (2, xi v2)]) d_RF_addForm_81 rfl (Nat.le_of_ble_eq_true rfl) rfl ?_
      refine xG_aload_n d_RF_addForm_82 rfl rfl rfl ?_
      refine xG_aload_n d_RF_addForm_83 rfl rfl rfl ?_
      refine xG_geti d_RF_addForm_84 xf_RF_86 rfl s0_250 ?_
      refine xG_puti d_RF_addForm_87 xf_RF_92 (Or.inl rfl) rfl s0_250 rfl rfl ?_
      refine xG_aload_n d_RF_addForm_90 rfl rfl rfl ?_
      refine xG_iload_n d_RF_addForm_91 rfl rfl ?_
      obtain ⟨Q2, hM, h⟩ := h
      refine xG_callv (as := [xi (I1 250 6)]) (rest := []) d_RF_addForm_92 yv_RF_textB w4_215 rfl rfl rfl s0_250 (by decide) rfl hM ⟨by decide, by decide⟩ (Nat.le_of_ble_eq_true rfl) ⟨Nat.zero_le _, Nat.zero_le _⟩ (fun r S2 I2 J2 P2 hp => ?_)
      obtain ⟨rfl, hL2, z2, rfl, hq⟩ := hp
      have h := h z2 I2 J2 P2 hq
      refine xG_if_eq (tgt := 130) d_RF_addForm_95 (by decide) (fun c => ?_) (fun c => ?_)
      · have h := h.1 c
        refine xG_iconst (v := 0) d_RF_addForm_130 rfl ?_
        exact xG_ireturn d_RF_addForm_131 rfl rfl ⟨rfl, hL2, _, rfl, h⟩
      · have h := h.2 c
        refine xG_aload_n d_RF_addForm_98 rfl rfl rfl ?_
        refine xG_bipush (v := 49) d_RF_addForm_99 rfl ?_
        refine xG_sipush (v := 255) d_RF_addForm_101 rfl ?_
        refine xG_iload_n d_RF_addForm_104 rfl rfl ?_
        obtain ⟨Q3, hM, h⟩ := h
        refine xG_callv (as := [xi 49, xi 255, xi (I1 250 6)]) (rest := []) d_RF_addForm_105 yv_RF_take w4_191 rfl rfl rfl s0_250 (by decide) rfl hM ⟨by decide, by decide⟩ (Nat.le_of_ble_eq_true rfl) ⟨Nat.zero_le _, Nat.zero_le _⟩ (fun r S3 I3 J3 P3 hp => ?_)
        obtain ⟨rfl, hL3, z3, rfl, hq⟩ := hp
        have h := h z3 I3 J3 P3 hq
        refine xG_if_eq (tgt := 130) d_RF_addForm_108 (by decide) (fun c => ?_) (fun c => ?_)
        · have h := h.1 c
          refine xG_iconst (v := 0) d_RF_addForm_130 rfl ?_
          exact xG_ireturn d_RF_addForm_131 rfl rfl ⟨rfl, hL3, _, rfl, h⟩
        · have h := h.2 c
          refine xG_aload_n d_RF_addForm_111 rfl rfl rfl ?_
          refine xG_geti d_RF_addForm_112 xf_RF_92 rfl s0_250 ?_
          refine xG_iload_n d_RF_addForm_115 rfl rfl ?_
          refine xG_icmp_ne (tgt := 130) d_RF_addForm_116 (by decide) (fun c => ?_) (fun c => ?_)
          · have h := h.1 c
            refine xG_iconst (v := 0) d_RF_addForm_130 rfl ?_
            exact xG_ireturn d_RF_addForm_131 rfl rfl ⟨rfl, hL3, _, rfl, h⟩
          · have h := h.2 c
            refine xG_aload_n d_RF_addForm_119 rfl rfl rfl ?_
            refine xG_geti d_RF_addForm_120 xf_RF_86 rfl s0_250 ?_
            refine xG_aload_n d_RF_addForm_123 rfl rfl rfl ?_
            refine xG_geti d_RF_addForm_124 xf_RF_89 rfl s0_250 ?_
            refine xG_icmp_ne (tgt := 132) d_RF_addForm_127 (by decide) (fun c => ?_) (fun c => ?_)
            · have h := h.1 c
              refine xG_aload_n d_RF_addForm_132 rfl rfl rfl ?_
              refine xG_aload_n d_RF_addForm_133 rfl rfl rfl ?_
              refine xG_geti d_RF_addForm_134 xf_RF_86 rfl s0_250 ?_
              refine xG_iload_n d_RF_addForm_137 rfl rfl ?_
              obtain ⟨Q4, hM, h⟩ := h
              refine xG_callv (as := [xi (I3 250 4), xi (I1 250 6)]) (rest := []) d_RF_addForm_138 yv_RF_listValues w4_223 rfl rfl rfl s0_250 (by decide) rfl hM ⟨by decide, by decide⟩ (Nat.le_of_ble_eq_true rfl) ⟨Nat.zero_le _, Nat.zero_le _⟩ (fun r S4 I4 J4 P4 hp => ?_)
              obtain ⟨rfl, hL4, z4, rfl, hq⟩ := hp
              have h := h z4 I4 J4 P4 hq
              refine xG_if_ne (tgt := 146) d_RF_addForm_141 (by decide) (fun c => ?_) (fun c => ?_)
              · have h := h.1 c
                refine xG_iload_n d_RF_addForm_146 rfl rfl ?_
                refine xG_istore_n (lv' := [(2, xi (I1 250 6)), (3, xi (I1 250 6)), (0, xq (some 250)), (1, xi v1)]) d_RF_addForm_147 rfl (Nat.le_of_ble_eq_true rfl) rfl ?_
                refine xG_goto (tgt := 52) d_RF_addForm_148 (by decide) ?_
                refine xG_pick [2, 3, 0] rfl ?_
                exact h
              · have h := h.2 c
                refine xG_iconst (v := 0) d_RF_addForm_144 rfl ?_
                exact xG_ireturn d_RF_addForm_145 rfl rfl ⟨rfl, hL4, _, rfl, h⟩
            · have h := h.2 c
              refine xG_iconst (v := 0) d_RF_addForm_130 rfl ?_
              exact xG_ireturn d_RF_addForm_131 rfl rfl ⟨rfl, hL3, _, rfl, h⟩
    · have h := h.2 c
      refine xG_iconst (v := 0) d_RF_addForm_75 rfl ?_
      exact xG_ireturn d_RF_addForm_76 rfl rfl ⟨rfl, hL1, _, rfl, h⟩
theorem e_RF_addForm {l : Launch} {V : xV} {Q : Int32 → xIt → xJt → xPt → Prop} {I : xIt} {J : xJt} {P : xPt} {v1 : Int32} (h : G_RF_addForm l V Q 0 [(0, xq (some 250)), (1, xi v1)] [] I J P) : xMet l V y_RF_addForm 4 0 0 [xq (some 250), xi v1] xS0 I J P (xPi Q) := xMet_of (by decide) (Nat.le_of_ble_eq_true rfl) h

abbrev G_RF_modifyForm (l : Launch) (V : xV) (Q : Int32 → xIt → xJt → xPt → Prop) (pc : Nat) (lv : List (Nat × xX)) (st : List xX) (I : xIt) (J : xJt) (P : xPt) : Prop := xG l V y_RF_modifyForm (xR 4 0 0) (xFn V y_RF_modifyForm (xR 4 0 0) (xPi Q)) pc lv st xS0 I J P (0, 0)
set_option maxRecDepth 20000 in
theorem b_RF_modifyForm_0 {l : Launch} {V : xV} {Q : Int32 → xIt → xJt → xPt → Prop} {I : xIt} {J : xJt} {P : xPt} (hL : xL P) {v1 : Int32} (h : (∃ Q1 : Int32 → xIt → xJt → xPt → Prop, xMet l V y_RF_textA 3 0 0 [xq (some 250), xi v1] xS0 I J P (xPi Q1) ∧ ∀ (z1 : Int32) (I1 : xIt) (J1 : xJt) (P1 : xPt), Q1 z1 I1 J1 P1 → ((z1 = 0 → Q 0 I1 J1 P1) ∧ (¬ z1 = 0 → (∃ Q2 : Int32 → xIt → xJt → xPt → Prop, xMet l V y_RF_single 3 0 0 [xq (some 250), xi 10, xi v1] xS0 I1 J1 P1 (xPi Q2) ∧ ∀ (z2 : Int32) (I2 : xIt) (J2 : xJt) (P2 : xPt), Q2 z2 I2 J2 P2 → ((z2 = 0 → Q 0 I2 J2 P2) ∧ (¬ z2 = 0 → (((I2 250 7) ≤ 2 → (∃ Q3 : Int32 → xIt → xJt → xPt → Prop, xMet l V y_RF_textB 3 0 0 [xq (some 250), xi v1] xS0 (xu I2 250 11 (I2 250 7)) J2 P2 (xPi Q3) ∧ ∀ (z3 : Int32) (I3 : xIt) (J3 : xJt) (P3 : xPt), Q3 z3 I3 J3 P3 → ((z3 = 0 → Q 0 I3 J3 P3) ∧ (¬ z3 = 0 → (∃ Q4 : Int32 → xIt → xJt → xPt → Prop, xMet l V y_RF_take 2 0 0 [xq (some 250), xi 49, xi 255, xi v1] xS0 I3 J3 P3 (xPi Q4) ∧ ∀ (z4 : Int32) (I4 : xIt) (J4 : xJt) (P4 : xPt), Q4 z4 I4 J4 P4 → ((z4 = 0 → Q 0 I4 J4 P4) ∧ (¬ z4 = 0 → (((I4 250 6) = v1 → (∃ Q5 : Int32 → xIt → xJt → xPt → Prop, xMet l V y_RF_listValues 3 0 0 [xq (some 250), xi (I4 250 4), xi (I4 250 5)] xS0 (xu (xu I4 250 16 (I4 250 4)) 250 17 (I4 250 5)) J4 P4 (xPi Q5) ∧ ∀ (z5 : Int32) (I5 : xIt) (J5 : xJt) (P5 : xPt), Q5 z5 I5 J5 P5 → ((z5 = 0 ∨ z5 = 1) ∧ Q z5 I5 J5 P5))) ∧ (¬ (I4 250 6) = v1 → Q 0 I4 J4 P4))))))))) ∧ (¬ (I2 250 7) ≤ 2 → Q 0 I2 J2 P2))))))))) : G_RF_modifyForm l V Q 0 [(0, xq (some 250)), (1, xi v1)] [] I J P := by
  refine xG_aload_n d_RF_modifyForm_0 rfl rfl rfl ?_
  refine xG_iload_n d_RF_modifyForm_1 rfl rfl ?_
  obtain ⟨Q1, hM, h⟩ := h
  refine xG_callv (as := [xi v1]) (rest := []) d_RF_modifyForm_2 yv_RF_textA w4_203 rfl rfl rfl s0_250 (by decide) rfl hM ⟨by decide, by decide⟩ (Nat.le_of_ble_eq_true rfl) ⟨Nat.zero_le _, Nat.zero_le _⟩ (fun r S1 I1 J1 P1 hp => ?_)
  obtain ⟨rfl, hL1, z1, rfl, hq⟩ := hp
  have h := h z1 I1 J1 P1 hq
  refine xG_if_eq (tgt := 26) d_RF_modifyForm_5 (by decide) (fun c => ?_) (fun c => ?_)
  · have h := h.1 c
    refine xG_iconst (v := 0) d_RF_modifyForm_26 rfl ?_
    exact xG_ireturn d_RF_modifyForm_27 rfl rfl ⟨rfl, hL1, _, rfl, h⟩
  · have h := h.2 c
    refine xG_aload_n d_RF_modifyForm_8 rfl rfl rfl ?_
    refine xG_bipush (v := 10) d_RF_modifyForm_9 rfl ?_
    refine xG_iload_n d_RF_modifyForm_11 rfl rfl ?_
    obtain ⟨Q2, hM, h⟩ := h
    refine xG_callv (as := [xi 10, xi v1]) (rest := []) d_RF_modifyForm_12 yv_RF_single w4_231 rfl rfl rfl s0_250 (by decide) rfl hM ⟨by decide, by decide⟩ (Nat.le_of_ble_eq_true rfl) ⟨Nat.zero_le _, Nat.zero_le _⟩ (fun r S2 I2 J2 P2 hp => ?_)
    obtain ⟨rfl, hL2, z2, rfl, hq⟩ := hp
    have h := h z2 I2 J2 P2 hq
    refine xG_if_eq (tgt := 26) d_RF_modifyForm_15 (by decide) (fun c => ?_) (fun c => ?_)
    · have h := h.1 c
      refine xG_iconst (v := 0) d_RF_modifyForm_26 rfl ?_
      exact xG_ireturn d_RF_modifyForm_27 rfl rfl ⟨rfl, hL2, _, rfl, h⟩
    · have h := h.2 c
      refine xG_aload_n d_RF_modifyForm_18 rfl rfl rfl ?_
      refine xG_geti d_RF_modifyForm_19 xf_RF_103 rfl s0_250 ?_
      refine xG_iconst (v := 2) d_RF_modifyForm_22 rfl ?_
      refine xG_icmp_le (tgt := 28) d_RF_modifyForm_23 (by decide) (fun c => ?_) (fun c => ?_)
      · have h := h.1 c
        refine xG_aload_n d_RF_modifyForm_28 rfl rfl rfl ?_
        refine xG_aload_n d_RF_modifyForm_29 rfl rfl rfl ?_
        refine xG_geti d_RF_modifyForm_30 xf_RF_103 rfl s0_250 ?_
        refine xG_puti d_RF_modifyForm_33 xf_RF_174 (Or.inl rfl) rfl s0_250 rfl rfl ?_
        refine xG_aload_n d_RF_modifyForm_36 rfl rfl rfl ?_
        refine xG_iload_n d_RF_modifyForm_37 rfl rfl ?_
        obtain ⟨Q3, hM, h⟩ := h
        refine xG_callv (as := [xi v1]) (rest := []) d_RF_modifyForm_38 yv_RF_textB w4_215 rfl rfl rfl s0_250 (by decide) rfl hM ⟨by decide, by decide⟩ (Nat.le_of_ble_eq_true rfl) ⟨Nat.zero_le _, Nat.zero_le _⟩ (fun r S3 I3 J3 P3 hp => ?_)
        obtain ⟨rfl, hL3, z3, rfl, hq⟩ := hp
        have h := h z3 I3 J3 P3 hq
        refine xG_if_eq (tgt := 65) d_RF_modifyForm_41 (by decide) (fun c => ?_) (fun c => ?_)
        · have h := h.1 c
          refine xG_iconst (v := 0) d_RF_modifyForm_65 rfl ?_
          exact xG_ireturn d_RF_modifyForm_66 rfl rfl ⟨rfl, hL3, _, rfl, h⟩
        · have h := h.2 c
          refine xG_aload_n d_RF_modifyForm_44 rfl rfl rfl ?_
          refine xG_bipush (v := 49) d_RF_modifyForm_45 rfl ?_
          refine xG_sipush (v := 255) d_RF_modifyForm_47 rfl ?_
          refine xG_iload_n d_RF_modifyForm_50 rfl rfl ?_
          obtain ⟨Q4, hM, h⟩ := h
          refine xG_callv (as := [xi 49, xi 255, xi v1]) (rest := []) d_RF_modifyForm_51 yv_RF_take w4_191 rfl rfl rfl s0_250 (by decide) rfl hM ⟨by decide, by decide⟩ (Nat.le_of_ble_eq_true rfl) ⟨Nat.zero_le _, Nat.zero_le _⟩ (fun r S4 I4 J4 P4 hp => ?_)
          obtain ⟨rfl, hL4, z4, rfl, hq⟩ := hp
          have h := h z4 I4 J4 P4 hq
          refine xG_if_eq (tgt := 65) d_RF_modifyForm_54 (by decide) (fun c => ?_) (fun c => ?_)
          · have h := h.1 c
            refine xG_iconst (v := 0) d_RF_modifyForm_65 rfl ?_
            exact xG_ireturn d_RF_modifyForm_66 rfl rfl ⟨rfl, hL4, _, rfl, h⟩
          · have h := h.2 c
            refine xG_aload_n d_RF_modifyForm_57 rfl rfl rfl ?_
            refine xG_geti d_RF_modifyForm_58 xf_RF_92 rfl s0_250 ?_
            refine xG_iload_n d_RF_modifyForm_61 rfl rfl ?_
            refine xG_icmp_eq (tgt := 67) d_RF_modifyForm_62 (by decide) (fun c => ?_) (fun c => ?_)
            · have h := h.1 c
              refine xG_aload_n d_RF_modifyForm_67 rfl rfl rfl ?_
              refine xG_aload_n d_RF_modifyForm_68 rfl rfl rfl ?_
              refine xG_geti d_RF_modifyForm_69 xf_RF_86 rfl s0_250 ?_
              refine xG_puti d_RF_modifyForm_72 xf_RF_118 (Or.inl rfl) rfl s0_250 rfl rfl ?_
              refine xG_aload_n d_RF_modifyForm_75 rfl rfl rfl ?_
              refine xG_aload_n d_RF_modifyForm_76 rfl rfl rfl ?_
              refine xG_geti d_RF_modifyForm_77 xf_RF_89 rfl s0_250 ?_
              refine xG_topi (x' := I4 250 5) (by first | rfl | exact xu_at | simp [xu]) ?_
              refine xG_puti d_RF_modifyForm_80 xf_RF_121 (Or.inl rfl) rfl s0_250 rfl rfl ?_
              refine xG_aload_n d_RF_modifyForm_83 rfl rfl rfl ?_
              refine xG_aload_n d_RF_modifyForm_84 rfl rfl rfl ?_
              refine xG_geti d_RF_modifyForm_85 xf_RF_118 rfl s0_250 ?_
              refine xG_topi (x' := I4 250 4) (by first | rfl | exact xu_at | simp [xu]) ?_
              refine xG_aload_n d_RF_modifyForm_88 rfl rfl rfl ?_
              refine xG_geti d_RF_modifyForm_89 xf_RF_121 rfl s0_250 ?_
              refine xG_topi (x' := I4 250 5) (by first | rfl | exact xu_at | simp [xu]) ?_
              obtain ⟨Q5, hM, h⟩ := h
              refine xG_callv (as := [xi (I4 250 4), xi (I4 250 5)]) (rest := []) d_RF_modifyForm_92 yv_RF_listValues w4_223 rfl rfl rfl s0_250 (by decide) rfl hM ⟨by decide, by decide⟩ (Nat.le_of_ble_eq_true rfl) ⟨Nat.zero_le _, Nat.zero_le _⟩ (fun r S5 I5 J5 P5 hp => ?_)
              obtain ⟨rfl, hL5, z5, rfl, hq⟩ := hp
              have h := h z5 I5 J5 P5 hq
              exact xG_ireturn d_RF_modifyForm_95 rfl (x_nb h.1) ⟨rfl, hL5, _, rfl, h.2⟩
            · have h := h.2 c
              refine xG_iconst (v := 0) d_RF_modifyForm_65 rfl ?_
              exact xG_ireturn d_RF_modifyForm_66 rfl rfl ⟨rfl, hL4, _, rfl, h⟩
      · have h := h.2 c
        refine xG_iconst (v := 0) d_RF_modifyForm_26 rfl ?_
        exact xG_ireturn d_RF_modifyForm_27 rfl rfl ⟨rfl, hL2, _, rfl, h⟩
theorem e_RF_modifyForm {l : Launch} {V : xV} {Q : Int32 → xIt → xJt → xPt → Prop} {I : xIt} {J : xJt} {P : xPt} {v1 : Int32} (h : G_RF_modifyForm l V Q 0 [(0, xq (some 250)), (1, xi v1)] [] I J P) : xMet l V y_RF_modifyForm 4 0 0 [xq (some 250), xi v1] xS0 I J P (xPi Q) := xMet_of (by decide) (Nat.le_of_ble_eq_true rfl) h

abbrev G_RF_renameForm (l : Launch) (V : xV) (Q : Int32 → xIt → xJt → xPt → Prop) (pc : Nat) (lv : List (Nat × xX)) (st : List xX) (I : xIt) (J : xJt) (P : xPt) : Prop := xG l V y_RF_renameForm (xR 4 0 0) (xFn V y_RF_renameForm (xR 4 0 0) (xPi Q)) pc lv st xS0 I J P (0, 0)
set_option maxRecDepth 20000 in
theorem b_RF_renameForm_0 {l : Launch} {V : xV} {Q : Int32 → xIt → xJt → xPt → Prop} {I : xIt} {J : xJt} {P : xPt} (hL : xL P) {v1 : Int32} (h : (∃ Q1 : Int32 → xIt → xJt → xPt → Prop, xMet l V y_RF_textA 3 0 0 [xq (some 250), xi v1] xS0 I J P (xPi Q1) ∧ ∀ (z1 : Int32) (I1 : xIt) (J1 : xJt) (P1 : xPt), Q1 z1 I1 J1 P1 → ((z1 = 0 → Q 0 I1 J1 P1) ∧ (¬ z1 = 0 → (∃ Q2 : Int32 → xIt → xJt → xPt → Prop, xMet l V y_RF_textB 3 0 0 [xq (some 250), xi v1] xS0 I1 J1 P1 (xPi Q2) ∧ ∀ (z2 : Int32) (I2 : xIt) (J2 : xJt) (P2 : xPt), Q2 z2 I2 J2 P2 → ((z2 = 0 → Q 0 I2 J2 P2) ∧ (¬ z2 = 0 → (∃ Q3 : Int32 → xIt → xJt → xPt → Prop, xMet l V y_RF_single 3 0 0 [xq (some 250), xi 1, xi v1] xS0 I2 J2 P2 (xPi Q3) ∧ ∀ (z3 : Int32) (I3 : xIt) (J3 : xJt) (P3 : xPt), Q3 z3 I3 J3 P3 → ((¬ z3 = 0 → Q 1 (xu I3 250 11 (I3 250 7)) J3 P3) ∧ (z3 = 0 → Q 0 I3 J3 P3)))))))))) : G_RF_renameForm l V Q 0 [(0, xq (some 250)), (1, xi v1)] [] I J P := by
  refine xG_aload_n d_RF_renameForm_0 rfl rfl rfl ?_
  refine xG_iload_n d_RF_renameForm_1 rfl rfl ?_
  obtain ⟨Q1, hM, h⟩ := h
  refine xG_callv (as := [xi v1]) (rest := []) d_RF_renameForm_2 yv_RF_textA w4_203 rfl rfl rfl s0_250 (by decide) rfl hM ⟨by decide, by decide⟩ (Nat.le_of_ble_eq_true rfl) ⟨Nat.zero_le _, Nat.zero_le _⟩ (fun r S1 I1 J1 P1 hp => ?_)
  obtain ⟨rfl, hL1, z1, rfl, hq⟩ := hp
  have h := h z1 I1 J1 P1 hq
  refine xG_if_eq (tgt := 25) d_RF_renameForm_5 (by decide) (fun c => ?_) (fun c => ?_)
  · have h := h.1 c
    refine xG_iconst (v := 0) d_RF_renameForm_25 rfl ?_
    exact xG_ireturn d_RF_renameForm_26 rfl rfl ⟨rfl, hL1, _, rfl, h⟩
  · have h := h.2 c
    refine xG_aload_n d_RF_renameForm_8 rfl rfl rfl ?_
    refine xG_iload_n d_RF_renameForm_9 rfl rfl ?_
    obtain ⟨Q2, hM, h⟩ := h
    refine xG_callv (as := [xi v1]) (rest := []) d_RF_renameForm_10 yv_RF_textB w4_215 rfl rfl rfl s0_250 (by decide) rfl hM ⟨by decide, by decide⟩ (Nat.le_of_ble_eq_true rfl) ⟨Nat.zero_le _, Nat.zero_le _⟩ (fun r S2 I2 J2 P2 hp => ?_)
    obtain ⟨rfl, hL2, z2, rfl, hq⟩ := hp
    have h := h z2 I2 J2 P2 hq
    refine xG_if_eq (tgt := 25) d_RF_renameForm_13 (by decide) (fun c => ?_) (fun c => ?_)
    · have h := h.1 c
      refine xG_iconst (v := 0) d_RF_renameForm_25 rfl ?_
      exact xG_ireturn d_RF_renameForm_26 rfl rfl ⟨rfl, hL2, _, rfl, h⟩
    · have h := h.2 c
      refine xG_aload_n d_RF_renameForm_16 rfl rfl rfl ?_
      refine xG_iconst (v := 1) d_RF_renameForm_17 rfl ?_
      refine xG_iload_n d_RF_renameForm_18 rfl rfl ?_
      obtain ⟨Q3, hM, h⟩ := h
      refine xG_callv (as := [xi 1, xi v1]) (rest := []) d_RF_renameForm_19 yv_RF_single w4_231 rfl rfl rfl s0_250 (by decide) rfl hM ⟨by decide, by decide⟩ (Nat.le_of_ble_eq_true rfl) ⟨Nat.zero_le _, Nat.zero_le _⟩ (fun r S3 I3 J3 P3 hp => ?_)
      obtain ⟨rfl, hL3, z3, rfl, hq⟩ := hp
      have h := h z3 I3 J3 P3 hq
      refine xG_if_ne (tgt := 27) d_RF_renameForm_22 (by decide) (fun c => ?_) (fun c => ?_)
      · have h := h.1 c
        refine xG_aload_n d_RF_renameForm_27 rfl rfl rfl ?_
        refine xG_aload_n d_RF_renameForm_28 rfl rfl rfl ?_
        refine xG_geti d_RF_renameForm_29 xf_RF_103 rfl s0_250 ?_
        refine xG_puti d_RF_renameForm_32 xf_RF_174 (Or.inl rfl) rfl s0_250 rfl rfl ?_
        refine xG_iconst (v := 1) d_RF_renameForm_35 rfl ?_
        exact xG_ireturn d_RF_renameForm_36 rfl rfl ⟨rfl, hL3, _, rfl, h⟩
      · have h := h.2 c
        refine xG_iconst (v := 0) d_RF_renameForm_25 rfl ?_
        exact xG_ireturn d_RF_renameForm_26 rfl rfl ⟨rfl, hL3, _, rfl, h⟩
theorem e_RF_renameForm {l : Launch} {V : xV} {Q : Int32 → xIt → xJt → xPt → Prop} {I : xIt} {J : xJt} {P : xPt} {v1 : Int32} (h : G_RF_renameForm l V Q 0 [(0, xq (some 250)), (1, xi v1)] [] I J P) : xMet l V y_RF_renameForm 4 0 0 [xq (some 250), xi v1] xS0 I J P (xPi Q) := xMet_of (by decide) (Nat.le_of_ble_eq_true rfl) h

abbrev G_RF_searchForm (l : Launch) (V : xV) (Q : Int32 → xIt → xJt → xPt → Prop) (pc : Nat) (lv : List (Nat × xX)) (st : List xX) (I : xIt) (J : xJt) (P : xPt) : Prop := xG l V y_RF_searchForm (xR 4 0 0) (xFn V y_RF_searchForm (xR 4 0 0) (xPi Q)) pc lv st xS0 I J P (0, 0)
set_option maxRecDepth 20000 in
theorem b_RF_searchForm_0 {l : Launch} {V : xV} {Q : Int32 → xIt → xJt → xPt → Prop} {I : xIt} {J : xJt} {P : xPt} (hL : xL P) {v1 : Int32} (h : (∃ Q1 : Int32 → xIt → xJt → xPt → Prop, xMet l V y_RF_textA 3 0 0 [xq (some 250), xi v1] xS0 I J P (xPi Q1) ∧ ∀ (z1 : Int32) (I1 : xIt) (J1 : xJt) (P1 : xPt), Q1 z1 I1 J1 P1 → ((z1 = 0 → Q 0 I1 J1 P1) ∧ (¬ z1 = 0 → (∃ Q2 : Int32 → xIt → xJt → xPt → Prop, xMet l V y_RF_single 3 0 0 [xq (some 250), xi 10, xi v1] xS0 I1 J1 P1 (xPi Q2) ∧ ∀ (z2 : Int32) (I2 : xIt) (J2 : xJt) (P2 : xPt), Q2 z2 I2 J2 P2 → ((z2 = 0 → Q 0 I2 J2 P2) ∧ (¬ z2 = 0 → (((I2 250 7) ≤ 2 → (∃ Q3 : Int32 → xIt → xJt → xPt → Prop, xMet l V y_RF_integer 3 0 0 [xq (some 250), xi v1] xS0 (xu I2 250 11 (I2 250 7)) J2 P2 (xPi Q3) ∧ ∀ (z3 : Int32) (I3 : xIt) (J3 : xJt) (P3 : xPt), Q3 z3 I3 J3 P3 → ((z3 = 0 → Q 0 I3 J3 P3) ∧ (¬ z3 = 0 → ((0 ≤ (I3 250 7) → (∃ Q4 : Int32 → xIt → xJt → xPt → Prop, xMet l V y_RF_tlv 1 0 0 [xq (some 250), xi (I3 250 6), xi v1] xS0 (xu (xu (xu I3 250 10 (I3 250 7)) 250 16 (I3 250 6)) 250 17 v1) J3 P3 (xPi Q4) ∧ ∀ (z4 : Int32) (I4 : xIt) (J4 : xJt) (P4 : xPt), Q4 z4 I4 J4 P4 → ((z4 = 0 → Q 0 I4 J4 P4) ∧ (¬ z4 = 0 → (((I4 250 5) = v1 → G_RF_searchForm l V Q 129 [(0, xq (some 250)), (1, xi v1), (2, xi 0), (3, xi (I4 250 6)), (4, xi 0)] [] (xu (xu (xu I4 267 0 v1) 268 0 162) 269 0 0) J4 P4) ∧ (¬ (I4 250 5) = v1 → Q 0 I4 J4 P4)))))) ∧ (¬ 0 ≤ (I3 250 7) → Q 0 I3 J3 P3)))))) ∧ (¬ (I2 250 7) ≤ 2 → Q 0 I2 J2 P2))))))))) : G_RF_searchForm l V Q 0 [(0, xq (some 250)), (1, xi v1)] [] I J P := by
  refine xG_aload_n d_RF_searchForm_0 rfl rfl rfl ?_
  refine xG_iload_n d_RF_searchForm_1 rfl rfl ?_
  obtain ⟨Q1, hM, h⟩ := h
  refine xG_callv (as := [xi v1]) (rest := []) d_RF_searchForm_2 yv_RF_textA w4_203 rfl rfl rfl s0_250 (by decide) rfl hM ⟨by decide, by decide⟩ (Nat.le_of_ble_eq_true rfl) ⟨Nat.zero_le _, Nat.zero_le _⟩ (fun r S1 I1 J1 P1 hp => ?_)
  obtain ⟨rfl, hL1, z1, rfl, hq⟩ := hp
  have h := h z1 I1 J1 P1 hq
  refine xG_if_eq (tgt := 26) d_RF_searchForm_5 (by decide) (fun c => ?_) (fun c => ?_)
  · have h := h.1 c
    refine xG_iconst (v := 0) d_RF_searchForm_26 rfl ?_
    exact xG_ireturn d_RF_searchForm_27 rfl rfl ⟨rfl, hL1, _, rfl, h⟩
  · have h := h.2 c
    refine xG_aload_n d_RF_searchForm_8 rfl rfl rfl ?_
    refine xG_bipush (v := 10) d_RF_searchForm_9 rfl ?_
    refine xG_iload_n d_RF_searchForm_11 rfl rfl ?_
    obtain ⟨Q2, hM, h⟩ := h
    refine xG_callv (as := [xi 10, xi v1]) (rest := []) d_RF_searchForm_12 yv_RF_single w4_231 rfl rfl rfl s0_250 (by decide) rfl hM ⟨by decide, by decide⟩ (Nat.le_of_ble_eq_true rfl) ⟨Nat.zero_le _, Nat.zero_le _⟩ (fun r S2 I2 J2 P2 hp => ?_)
    obtain ⟨rfl, hL2, z2, rfl, hq⟩ := hp
    have h := h z2 I2 J2 P2 hq
    refine xG_if_eq (tgt := 26) d_RF_searchForm_15 (by decide) (fun c => ?_) (fun c => ?_)
    · have h := h.1 c
      refine xG_iconst (v := 0) d_RF_searchForm_26 rfl ?_
      exact xG_ireturn d_RF_searchForm_27 rfl rfl ⟨rfl, hL2, _, rfl, h⟩
    · have h := h.2 c
      refine xG_aload_n d_RF_searchForm_18 rfl rfl rfl ?_
      refine xG_geti d_RF_searchForm_19 xf_RF_103 rfl s0_250 ?_
      refine xG_iconst (v := 2) d_RF_searchForm_22 rfl ?_
      refine xG_icmp_le (tgt := 28) d_RF_searchForm_23 (by decide) (fun c => ?_) (fun c => ?_)
      · have h := h.1 c
        refine xG_aload_n d_RF_searchForm_28 rfl rfl rfl ?_
        refine xG_aload_n d_RF_searchForm_29 rfl rfl rfl ?_
        refine xG_geti d_RF_searchForm_30 xf_RF_103 rfl s0_250 ?_
        refine xG_puti d_RF_searchForm_33 xf_RF_174 (Or.inl rfl) rfl s0_250 rfl rfl ?_
        refine xG_aload_n d_RF_searchForm_36 rfl rfl rfl ?_
        refine xG_iload_n d_RF_searchForm_37 rfl rfl ?_
        obtain ⟨Q3, hM, h⟩ := h
        refine xG_callv (as := [xi v1]) (rest := []) d_RF_searchForm_38 yv_RF_integer w4_187 rfl rfl rfl s0_250 (by decide) rfl hM ⟨by decide, by decide⟩ (Nat.le_of_ble_eq_true rfl) ⟨Nat.zero_le _, Nat.zero_le _⟩ (fun r S3 I3 J3 P3 hp => ?_)
        obtain ⟨rfl, hL3, z3, rfl, hq⟩ := hp
        have h := h z3 I3 J3 P3 hq
        refine xG_if_eq (tgt := 51) d_RF_searchForm_41 (by decide) (fun c => ?_) (fun c => ?_)
        · have h := h.1 c
          refine xG_iconst (v := 0) d_RF_searchForm_51 rfl ?_
          exact xG_ireturn d_RF_searchForm_52 rfl rfl ⟨rfl, hL3, _, rfl, h⟩
        · have h := h.2 c
          refine xG_aload_n d_RF_searchForm_44 rfl rfl rfl ?_
          refine xG_geti d_RF_searchForm_45 xf_RF_103 rfl s0_250 ?_
          refine xG_if_ge (tgt := 53) d_RF_searchForm_48 (by decide) (fun c => ?_) (fun c => ?_)
          · have h := h.1 c
            refine xG_aload_n d_RF_searchForm_53 rfl rfl rfl ?_
            refine xG_aload_n d_RF_searchForm_54 rfl rfl rfl ?_
            refine xG_geti d_RF_searchForm_55 xf_RF_103 rfl s0_250 ?_
            refine xG_puti d_RF_searchForm_58 xf_RF_155 (Or.inl rfl) rfl s0_250 rfl rfl ?_
            refine xG_aload_n d_RF_searchForm_61 rfl rfl rfl ?_
            refine xG_aload_n d_RF_searchForm_62 rfl rfl rfl ?_
            refine xG_geti d_RF_searchForm_63 xf_RF_92 rfl s0_250 ?_
            refine xG_topi (x' := I3 250 6) (by first | rfl | exact xu_at | simp [xu]) ?_
            refine xG_puti d_RF_searchForm_66 xf_RF_118 (Or.inl rfl) rfl s0_250 rfl rfl ?_
            refine xG_aload_n d_RF_searchForm_69 rfl rfl rfl ?_
            refine xG_iload_n d_RF_searchForm_70 rfl rfl ?_
            refine xG_puti d_RF_searchForm_71 xf_RF_121 (Or.inl rfl) rfl s0_250 rfl rfl ?_
            refine xG_aload_n d_RF_searchForm_74 rfl rfl rfl ?_
            refine xG_aload_n d_RF_searchForm_75 rfl rfl rfl ?_
            refine xG_geti d_RF_searchForm_76 xf_RF_92 rfl s0_250 ?_
            refine xG_topi (x' := I3 250 6) (by first | rfl | exact xu_at | simp [xu]) ?_
            refine xG_iload_n d_RF_searchForm_79 rfl rfl ?_
            obtain ⟨Q4, hM, h⟩ := h
            refine xG_callv (as := [xi (I3 250 6), xi v1]) (rest := []) d_RF_searchForm_80 yv_RF_tlv w4_195 rfl rfl rfl s0_250 (by decide) rfl hM ⟨by decide, by decide⟩ (Nat.le_of_ble_eq_true rfl) ⟨Nat.zero_le _, Nat.zero_le _⟩ (fun r S4 I4 J4 P4 hp => ?_)
            obtain ⟨rfl, hL4, z4, rfl, hq⟩ := hp
            have h := h z4 I4 J4 P4 hq
            refine xG_if_eq (tgt := 94) d_RF_searchForm_83 (by decide) (fun c => ?_) (fun c => ?_)
            · have h := h.1 c
              refine xG_iconst (v := 0) d_RF_searchForm_94 rfl ?_
              exact xG_ireturn d_RF_searchForm_95 rfl rfl ⟨rfl, hL4, _, rfl, h⟩
            · have h := h.2 c
              refine xG_aload_n d_RF_searchForm_86 rfl rfl rfl ?_
              refine xG_geti d_RF_searchForm_87 xf_RF_89 rfl s0_250 ?_
              refine xG_iload_n d_RF_searchForm_90 rfl rfl ?_
              refine xG_icmp_eq (tgt := 96) d_RF_searchForm_91 (by decide) (fun c => ?_) (fun c => ?_)
              · have h := h.1 c
                refine xG_iconst (v := 0) d_RF_searchForm_96 rfl ?_
                refine xG_istore_n (lv' := [(2, xi 0), (0, xq (some 250)), (1, xi v1)]) d_RF_searchForm_97 rfl (Nat.le_of_ble_eq_true rfl) rfl ?_
                refine xG_aload_n d_RF_searchForm_98 rfl rfl rfl ?_
                refine xG_geti d_RF_searchForm_99 xf_RF_92 rfl s0_250 ?_
                refine xG_istore_n (lv' := [(3, xi (I4 250 6)), (2, xi 0), (0, xq (some 250)), (1, xi v1)]) d_RF_searchForm_102 rfl (Nat.le_of_ble_eq_true rfl) rfl ?_
                refine xG_iconst (v := 0) d_RF_searchForm_103 rfl ?_
                refine xG_istore (lv' := [(4, xi 0), (3, xi (I4 250 6)), (2, xi 0), (0, xq (some 250)), (1, xi v1)]) d_RF_searchForm_104 (Nat.le_of_ble_eq_true rfl) rfl ?_
                refine xG_aload_n d_RF_searchForm_106 rfl rfl rfl ?_
                refine xG_getq d_RF_searchForm_107 xf_RF_62 rfl s0_250 ?_
                refine xG_iconst (v := 0) d_RF_searchForm_110 rfl ?_
                refine xG_iload_n d_RF_searchForm_111 rfl rfl ?_
                refine xG_iast d_RF_searchForm_112 (lp_250_38 hL4) s0_267 (x_vp (by decide)) ?_
                refine xG_hI (I' := (xu I4 267 0 v1)) rfl ?_
                refine xG_aload_n d_RF_searchForm_113 rfl rfl rfl ?_
                refine xG_getq d_RF_searchForm_114 xf_RF_65 rfl s0_250 ?_
                refine xG_iconst (v := 0) d_RF_searchForm_117 rfl ?_
                refine xG_sipush (v := 162) d_RF_searchForm_118 rfl ?_
                refine xG_iast d_RF_searchForm_121 (lp_250_39 hL4) s0_268 (x_vp (by decide)) ?_
                refine xG_hI (I' := (xu (xu I4 267 0 v1) 268 0 162)) rfl ?_
                refine xG_aload_n d_RF_searchForm_122 rfl rfl rfl ?_
                refine xG_getq d_RF_searchForm_123 xf_RF_68 rfl s0_250 ?_
                refine xG_iconst (v := 0) d_RF_searchForm_126 rfl ?_
                refine xG_iconst (v := 0) d_RF_searchForm_127 rfl ?_
                refine xG_iast d_RF_searchForm_128 (lp_250_40 hL4) s0_269 (x_vp (by decide)) ?_
                refine xG_hI (I' := (xu (xu (xu I4 267 0 v1) 268 0 162) 269 0 0)) rfl ?_
                refine xG_pick [3, 4, 2, 1, 0] rfl ?_
                exact h
              · have h := h.2 c
                refine xG_iconst (v := 0) d_RF_searchForm_94 rfl ?_
                exact xG_ireturn d_RF_searchForm_95 rfl rfl ⟨rfl, hL4, _, rfl, h⟩
          · have h := h.2 c
            refine xG_iconst (v := 0) d_RF_searchForm_51 rfl ?_
            exact xG_ireturn d_RF_searchForm_52 rfl rfl ⟨rfl, hL3, _, rfl, h⟩
      · have h := h.2 c
        refine xG_iconst (v := 0) d_RF_searchForm_26 rfl ?_
        exact xG_ireturn d_RF_searchForm_27 rfl rfl ⟨rfl, hL2, _, rfl, h⟩
set_option maxRecDepth 20000 in
theorem b_RF_searchForm_129 {l : Launch} {V : xV} {Q : Int32 → xIt → xJt → xPt → Prop} {I : xIt} {J : xJt} {P : xPt} (hL : xL P) {v1 : Int32} {v2 : Int32} {v3 : Int32} {v4 : Int32} (h : ((v2 < 0 → Q 1 I J P) ∧ (¬ v2 < 0 → (vp_in v2 8 ∧ ((¬ v3 = (I 267 v2.toNatClampNeg) → (vp_in v2 8 ∧ (∃ Q1 : Int32 → xIt → xJt → xPt → Prop, xMet l V y_RF_tlv 1 0 0 [xq (some 250), xi v3, xi (I 267 v2.toNatClampNeg)] xS0 I J P (xPi Q1) ∧ ∀ (z1 : Int32) (I1 : xIt) (J1 : xJt) (P1 : xPt), Q1 z1 I1 J1 P1 → ((z1 = 0 → Q 0 I1 J1 P1) ∧ (¬ z1 = 0 → ((v2 = 6 → Q 0 I1 J1 P1) ∧ (¬ v2 = 6 → ((¬ v4 = 12 → (vp_in v2 8 ∧ (vp_in v2 8 ∧ (((I1 250 3) < 160 → (∃ Q2 : Int32 → xIt → xJt → xPt → Prop, xMet l V y_RF_leafForm 3 0 0 [xq (some 250), xi (I1 250 4), xi (I1 250 5)] xS0 (xu I1 269 v2.toNatClampNeg ((I1 269 v2.toNatClampNeg) + 1)) J1 P1 (xPi Q2) ∧ ∀ (z2 : Int32) (I2 : xIt) (J2 : xJt) (P2 : xPt), Q2 z2 I2 J2 P2 → ((¬ z2 = 0 → G_RF_searchForm l V Q 129 [(0, xq (some 250)), (1, xi v1), (2, xi v2), (3, xi (I1 250 5)), (4, xi (v4 + 1))] [] I2 J2 P2) ∧ (z2 = 0 → Q 0 I2 J2 P2)))) ∧ (¬ (I1 250 3) < 160 → ((162 < (I1 250 3) → (∃ Q3 : Int32 → xIt → xJt → xPt → Prop, xMet l V y_RF_leafForm 3 0 0 [xq (some 250), xi (I1 250 4), xi (I1 250 5)] xS0 (xu I1 269 v2.toNatClampNeg ((I1 269 v2.toNatClampNeg) + 1)) J1 P1 (xPi Q3) ∧ ∀ (z3 : Int32) (I3 : xIt) (J3 : xJt) (P3 : xPt), Q3 z3 I3 J3 P3 → ((¬ z3 = 0 → G_RF_searchForm l V Q 129 [(0, xq (some 250)), (1, xi v1), (2, xi v2), (3, xi (I1 250 5)), (4, xi (v4 + 1))] [] I3 J3 P3) ∧ (z3 = 0 → Q 0 I3 J3 P3)))) ∧ (¬ 162 < (I1 250 3) → (vp_in (v2 + 1) 8 ∧ (vp_in (v2 + 1) 8 ∧ (vp_in (v2 + 1) 8 ∧ G_RF_searchForm l V Q 129 [(0, xq (some 250)), (1, xi v1), (2, xi (v2 + 1)), (3, xi (I1 250 4)), (4, xi (v4 + 1))] [] (xu (xu (xu (xu I1 269 v2.toNatClampNeg ((I1 269 v2.toNatClampNeg) + 1)) 267 ((v2 + 1).toNatClampNeg) (I1 250 5)) 268 ((v2 + 1).toNatClampNeg) (I1 250 3)) 269 ((v2 + 1).toNatClampNeg) 0) J1 P1)))))))))) ∧ (v4 = 12 → Q 0 I1 J1 P1))))))))) ∧ (v3 = (I 267 v2.toNatClampNeg) → (vp_in v2 8 ∧ ((¬ (I 268 v2.toNatClampNeg) = 162 → G_RF_searchForm l V Q 129 [(0, xq (some 250)), (1, xi v1), (2, xi (v2 + (-1))), (3, xi v3), (4, xi v4)] [] I J P) ∧ ((I 268 v2.toNatClampNeg) = 162 → (vp_in v2 8 ∧ (((I 269 v2.toNatClampNeg) = 1 → G_RF_searchForm l V Q 129 [(0, xq (some 250)), (1, xi v1), (2, xi (v2 + (-1))), (3, xi v3), (4, xi v4)] [] I J P) ∧ (¬ (I 269 v2.toNatClampNeg) = 1 → Q 0 I J P)))))))))))) : G_RF_searchForm l V Q 129 [(0, xq (some 250)), (1, xi v1), (2, xi v2), (3, xi v3), (4, xi v4)] [] I J P := by
  refine xG_iload_n d_RF_searchForm_129 rfl rfl ?_
  refine xG_if_lt (tgt := 295) d_RF_searchForm_130 (by decide) (fun c => ?_) (fun c => ?_)
  · have h := h.1 c
    refine xG_iconst (v := 1) d_RF_searchForm_295 rfl ?_
    exact xG_ireturn d_RF_searchForm_296 rfl rfl ⟨rfl, hL, _, rfl, h⟩
  · have h := h.2 c
    refine xG_iload_n d_RF_searchForm_133 rfl rfl ?_
    refine xG_aload_n d_RF_searchForm_134 rfl rfl rfl ?_
    refine xG_getq d_RF_searchForm_135 xf_RF_62 rfl s0_250 ?_
    refine xG_iload_n d_RF_searchForm_138 rfl rfl ?_
    refine xG_iald d_RF_searchForm_139 (lp_250_38 hL) s0_267 h.1 ?_
    have h := h.2
    refine xG_icmp_ne (tgt := 173) d_RF_searchForm_140 (by decide) (fun c => ?_) (fun c => ?_)
    · have h := h.1 c
      refine xG_aload_n d_RF_searchForm_173 rfl rfl rfl ?_
      refine xG_iload_n d_RF_searchForm_174 rfl rfl ?_
      refine xG_aload_n d_RF_searchForm_175 rfl rfl rfl ?_
      refine xG_getq d_RF_searchForm_176 xf_RF_62 rfl s0_250 ?_
      refine xG_iload_n d_RF_searchForm_179 rfl rfl ?_
      refine xG_iald d_RF_searchForm_180 (lp_250_38 hL) s0_267 h.1 ?_
      have h := h.2
      obtain ⟨Q1, hM, h⟩ := h
      refine xG_callv (as := [xi v3, xi (I 267 v2.toNatClampNeg)]) (rest := []) d_RF_searchForm_181 yv_RF_tlv w4_195 rfl rfl rfl s0_250 (by decide) rfl hM ⟨by decide, by decide⟩ (Nat.le_of_ble_eq_true rfl) ⟨Nat.zero_le _, Nat.zero_le _⟩ (fun r S1 I1 J1 P1 hp => ?_)
      obtain ⟨rfl, hL1, z1, rfl, hq⟩ := hp
      have h := h z1 I1 J1 P1 hq
      refine xG_if_eq (tgt := 200) d_RF_searchForm_184 (by decide) (fun c => ?_) (fun c => ?_)
      · have h := h.1 c
        refine xG_iconst (v := 0) d_RF_searchForm_200 rfl ?_
        exact xG_ireturn d_RF_searchForm_201 rfl rfl ⟨rfl, hL1, _, rfl, h⟩
      · have h := h.2 c
        refine xG_iload_n d_RF_searchForm_187 rfl rfl ?_
        refine xG_bipush (v := 6) d_RF_searchForm_188 rfl ?_
        refine xG_icmp_eq (tgt := 200) d_RF_searchForm_190 (by decide) (fun c => ?_) (fun c => ?_)
        · have h := h.1 c
          refine xG_iconst (v := 0) d_RF_searchForm_200 rfl ?_
          exact xG_ireturn d_RF_searchForm_201 rfl rfl ⟨rfl, hL1, _, rfl, h⟩
        · have h := h.2 c
          refine xG_iload d_RF_searchForm_193 rfl ?_
          refine xG_bipush (v := 12) d_RF_searchForm_195 rfl ?_
          refine xG_icmp_ne (tgt := 202) d_RF_searchForm_197 (by decide) (fun c => ?_) (fun c => ?_)
          · have h := h.1 c
            refine xG_iinc (v := v4 + 1) (lv' := [(4, xi (v4 + 1)), (0, xq (some 250)), (1, xi v1), (2, xi v2), (3, xi v3)]) d_RF_searchForm_202 rfl rfl (Nat.le_of_ble_eq_true rfl) rfl ?_
            refine xG_aload_n d_RF_searchForm_205 rfl rfl rfl ?_
            refine xG_getq d_RF_searchForm_206 xf_RF_68 rfl s0_250 ?_
            refine xG_iload_n d_RF_searchForm_209 rfl rfl ?_
            refine xG_dup2 d_RF_searchForm_210 rfl rfl ?_
            refine xG_iald d_RF_searchForm_211 (lp_250_40 hL1) s0_269 h.1 ?_
            have h := h.2
            refine xG_iconst (v := 1) d_RF_searchForm_212 rfl ?_
            refine xG_iadd d_RF_searchForm_213 ?_
            refine xG_iast d_RF_searchForm_214 (lp_250_40 hL1) s0_269 h.1 ?_
            have h := h.2
            refine xG_aload_n d_RF_searchForm_215 rfl rfl rfl ?_
            refine xG_geti d_RF_searchForm_216 xf_RF_83 rfl s0_250 ?_
            refine xG_topi (x' := I1 250 3) (by first | rfl | exact xu_at | simp [xu]) ?_
            refine xG_sipush (v := 160) d_RF_searchForm_219 rfl ?_
            refine xG_icmp_lt (tgt := 273) d_RF_searchForm_222 (by decide) (fun c => ?_) (fun c => ?_)
            · have h := h.1 c
              refine xG_aload_n d_RF_searchForm_273 rfl rfl rfl ?_
              refine xG_geti d_RF_searchForm_274 xf_RF_89 rfl s0_250 ?_
              refine xG_topi (x' := I1 250 5) (by first | rfl | exact xu_at | simp [xu]) ?_
              refine xG_istore_n (lv' := [(3, xi (I1 250 5)), (4, xi (v4 + 1)), (0, xq (some 250)), (1, xi v1), (2, xi v2)]) d_RF_searchForm_277 rfl (Nat.le_of_ble_eq_true rfl) rfl ?_
              refine xG_aload_n d_RF_searchForm_278 rfl rfl rfl ?_
              refine xG_aload_n d_RF_searchForm_279 rfl rfl rfl ?_
              refine xG_geti d_RF_searchForm_280 xf_RF_86 rfl s0_250 ?_
              refine xG_topi (x' := I1 250 4) (by first | rfl | exact xu_at | simp [xu]) ?_
              refine xG_aload_n d_RF_searchForm_283 rfl rfl rfl ?_
              refine xG_geti d_RF_searchForm_284 xf_RF_89 rfl s0_250 ?_
              refine xG_topi (x' := I1 250 5) (by first | rfl | exact xu_at | simp [xu]) ?_
              obtain ⟨Q2, hM, h⟩ := h
              refine xG_callv (as := [xi (I1 250 4), xi (I1 250 5)]) (rest := []) d_RF_searchForm_287 yv_RF_leafForm w5_3 rfl rfl rfl s0_250 (by decide) rfl hM ⟨by decide, by decide⟩ (Nat.le_of_ble_eq_true rfl) ⟨Nat.zero_le _, Nat.zero_le _⟩ (fun r S2 I2 J2 P2 hp => ?_)
              obtain ⟨rfl, hL2, z2, rfl, hq⟩ := hp
              have h := h z2 I2 J2 P2 hq
              refine xG_if_ne (tgt := 129) d_RF_searchForm_290 (by decide) (fun c => ?_) (fun c => ?_)
              · have h := h.1 c
                refine xG_pick [2, 3, 4, 0, 1] rfl ?_
                exact h
              · have h := h.2 c
                refine xG_iconst (v := 0) d_RF_searchForm_293 rfl ?_
                exact xG_ireturn d_RF_searchForm_294 rfl rfl ⟨rfl, hL2, _, rfl, h⟩
            · have h := h.2 c
              refine xG_aload_n d_RF_searchForm_225 rfl rfl rfl ?_
              refine xG_geti d_RF_searchForm_226 xf_RF_83 rfl s0_250 ?_
              refine xG_topi (x' := I1 250 3) (by first | rfl | exact xu_at | simp [xu]) ?_
              refine xG_sipush (v := 162) d_RF_searchForm_229 rfl ?_
              refine xG_icmp_gt (tgt := 273) d_RF_searchForm_232 (by decide) (fun c => ?_) (fun c => ?_)
              · have h := h.1 c
                refine xG_aload_n d_RF_searchForm_273 rfl rfl rfl ?_
                refine xG_geti d_RF_searchForm_274 xf_RF_89 rfl s0_250 ?_
                refine xG_topi (x' := I1 250 5) (by first | rfl | exact xu_at | simp [xu]) ?_
                refine xG_istore_n (lv' := [(3, xi (I1 250 5)), (4, xi (v4 + 1)), (0, xq (some 250)), (1, xi v1), (2, xi v2)]) d_RF_searchForm_277 rfl (Nat.le_of_ble_eq_true rfl) rfl ?_
                refine xG_aload_n d_RF_searchForm_278 rfl rfl rfl ?_
                refine xG_aload_n d_RF_searchForm_279 rfl rfl rfl ?_
                refine xG_geti d_RF_searchForm_280 xf_RF_86 rfl s0_250 ?_
                refine xG_topi (x' := I1 250 4) (by first | rfl | exact xu_at | simp [xu]) ?_
                refine xG_aload_n d_RF_searchForm_283 rfl rfl rfl ?_
                refine xG_geti d_RF_searchForm_284 xf_RF_89 rfl s0_250 ?_
                refine xG_topi (x' := I1 250 5) (by first | rfl | exact xu_at | simp [xu]) ?_
                obtain ⟨Q3, hM, h⟩ := h
                refine xG_callv (as := [xi (I1 250 4), xi (I1 250 5)]) (rest := []) d_RF_searchForm_287 yv_RF_leafForm w5_3 rfl rfl rfl s0_250 (by decide) rfl hM ⟨by decide, by decide⟩ (Nat.le_of_ble_eq_true rfl) ⟨Nat.zero_le _, Nat.zero_le _⟩ (fun r S3 I3 J3 P3 hp => ?_)
                obtain ⟨rfl, hL3, z3, rfl, hq⟩ := hp
                have h := h z3 I3 J3 P3 hq
                refine xG_if_ne (tgt := 129) d_RF_searchForm_290 (by decide) (fun c => ?_) (fun c => ?_)
                · have h := h.1 c
                  refine xG_pick [2, 3, 4, 0, 1] rfl ?_
                  exact h
                · have h := h.2 c
                  refine xG_iconst (v := 0) d_RF_searchForm_293 rfl ?_
                  exact xG_ireturn d_RF_searchForm_294 rfl rfl ⟨rfl, hL3, _, rfl, h⟩
              · have h := h.2 c
                refine xG_iinc (v := v2 + 1) (lv' := [(2, xi (v2 + 1)), (4, xi (v4 + 1)), (0, xq (some 250)), (1, xi v1), (3, xi v3)]) d_RF_searchForm_235 rfl rfl (Nat.le_of_ble_eq_true rfl) rfl ?_
                refine xG_aload_n d_RF_searchForm_238 rfl rfl rfl ?_
                refine xG_getq d_RF_searchForm_239 xf_RF_62 rfl s0_250 ?_
                refine xG_iload_n d_RF_searchForm_242 rfl rfl ?_
                refine xG_aload_n d_RF_searchForm_243 rfl rfl rfl ?_
                refine xG_geti d_RF_searchForm_244 xf_RF_89 rfl s0_250 ?_
                refine xG_topi (x' := I1 250 5) (by first | rfl | exact xu_at | simp [xu]) ?_
                refine xG_iast d_RF_searchForm_247 (lp_250_38 hL1) s0_267 h.1 ?_
                have h := h.2
                refine xG_aload_n d_RF_searchForm_248 rfl rfl rfl ?_
                refine xG_getq d_RF_searchForm_249 xf_RF_65 rfl s0_250 ?_
                refine xG_iload_n d_RF_searchForm_252 rfl rfl ?_
                refine xG_aload_n d_RF_searchForm_253 rfl rfl rfl ?_
                refine xG_geti d_RF_searchForm_254 xf_RF_83 rfl s0_250 ?_
                refine xG_topi (x' := I1 250 3) (by first | rfl | exact xu_at | simp [xu]) ?_
                refine xG_iast d_RF_searchForm_257 (lp_250_39 hL1) s0_268 h.1 ?_
                have h := h.2
                refine xG_aload_n d_RF_searchForm_258 rfl rfl rfl ?_
                refine xG_getq d_RF_searchForm_259 xf_RF_68 rfl s0_250 ?_
                refine xG_iload_n d_RF_searchForm_262 rfl rfl ?_
                refine xG_iconst (v := 0) d_RF_searchForm_263 rfl ?_
                refine xG_iast d_RF_searchForm_264 (lp_250_40 hL1) s0_269 h.1 ?_
                have h := h.2
                refine xG_aload_n d_RF_searchForm_265 rfl rfl rfl ?_
                refine xG_geti d_RF_searchForm_266 xf_RF_86 rfl s0_250 ?_
                refine xG_topi (x' := I1 250 4) (by first | rfl | exact xu_at | simp [xu]) ?_
                refine xG_istore_n (lv' := [(3, xi (I1 250 4)), (2, xi (v2 + 1)), (4, xi (v4 + 1)), (0, xq (some 250)), (1, xi v1)]) d_RF_searchForm_269 rfl (Nat.le_of_ble_eq_true rfl) rfl ?_
                refine xG_goto (tgt := 129) d_RF_searchForm_270 (by decide) ?_
                refine xG_pick [3, 4, 1, 0, 2] rfl ?_
                exact h
          · have h := h.2 c
            refine xG_iconst (v := 0) d_RF_searchForm_200 rfl ?_
            exact xG_ireturn d_RF_searchForm_201 rfl rfl ⟨rfl, hL1, _, rfl, h⟩
    · have h := h.2 c
      refine xG_aload_n d_RF_searchForm_143 rfl rfl rfl ?_
      refine xG_getq d_RF_searchForm_144 xf_RF_65 rfl s0_250 ?_
      refine xG_iload_n d_RF_searchForm_147 rfl rfl ?_
      refine xG_iald d_RF_searchForm_148 (lp_250_39 hL) s0_268 h.1 ?_
      have h := h.2
      refine xG_sipush (v := 162) d_RF_searchForm_149 rfl ?_
      refine xG_icmp_ne (tgt := 167) d_RF_searchForm_152 (by decide) (fun c => ?_) (fun c => ?_)
      · have h := h.1 c
        refine xG_iinc (v := v2 + (-1)) (lv' := [(2, xi (v2 + (-1))), (0, xq (some 250)), (1, xi v1), (3, xi v3), (4, xi v4)]) d_RF_searchForm_167 rfl rfl (Nat.le_of_ble_eq_true rfl) rfl ?_
        refine xG_goto (tgt := 129) d_RF_searchForm_170 (by decide) ?_
        refine xG_pick [1, 2, 0, 3, 4] rfl ?_
        exact h
      · have h := h.2 c
        refine xG_aload_n d_RF_searchForm_155 rfl rfl rfl ?_
        refine xG_getq d_RF_searchForm_156 xf_RF_68 rfl s0_250 ?_
        refine xG_iload_n d_RF_searchForm_159 rfl rfl ?_
        refine xG_iald d_RF_searchForm_160 (lp_250_40 hL) s0_269 h.1 ?_
        have h := h.2
        refine xG_iconst (v := 1) d_RF_searchForm_161 rfl ?_
        refine xG_icmp_eq (tgt := 167) d_RF_searchForm_162 (by decide) (fun c => ?_) (fun c => ?_)
        · have h := h.1 c
          refine xG_iinc (v := v2 + (-1)) (lv' := [(2, xi (v2 + (-1))), (0, xq (some 250)), (1, xi v1), (3, xi v3), (4, xi v4)]) d_RF_searchForm_167 rfl rfl (Nat.le_of_ble_eq_true rfl) rfl ?_
          refine xG_goto (tgt := 129) d_RF_searchForm_170 (by decide) ?_
          refine xG_pick [1, 2, 0, 3, 4] rfl ?_
          exact h
        · have h := h.2 c
          refine xG_iconst (v := 0) d_RF_searchForm_165 rfl ?_
          exact xG_ireturn d_RF_searchForm_166 rfl rfl ⟨rfl, hL, _, rfl, h⟩
theorem e_RF_searchForm {l : Launch} {V : xV} {Q : Int32 → xIt → xJt → xPt → Prop} {I : xIt} {J : xJt} {P : xPt} {v1 : Int32} (h : G_RF_searchForm l V Q 0 [(0, xq (some 250)), (1, xi v1)] [] I J P) : xMet l V y_RF_searchForm 4 0 0 [xq (some 250), xi v1] xS0 I J P (xPi Q) := xMet_of (by decide) (Nat.le_of_ble_eq_true rfl) h

abbrev G_RF_leafForm (l : Launch) (V : xV) (Q : Int32 → xIt → xJt → xPt → Prop) (pc : Nat) (lv : List (Nat × xX)) (st : List xX) (I : xIt) (J : xJt) (P : xPt) : Prop := xG l V y_RF_leafForm (xR 3 0 0) (xFn V y_RF_leafForm (xR 3 0 0) (xPi Q)) pc lv st xS0 I J P (0, 0)
set_option maxRecDepth 20000 in
theorem b_RF_leafForm_0 {l : Launch} {V : xV} {Q : Int32 → xIt → xJt → xPt → Prop} {I : xIt} {J : xJt} {P : xPt} (hL : xL P) {v1 : Int32} {v2 : Int32} (h : ((¬ (I 250 3) = 135 → (((I 250 3) = 163 → G_RF_leafForm l V Q 52 [(0, xq (some 250)), (1, xi v1), (2, xi v2), (3, xi (I 250 3))] [] (xu I 250 6 v1) J P) ∧ (¬ (I 250 3) = 163 → (((I 250 3) = 165 → G_RF_leafForm l V Q 52 [(0, xq (some 250)), (1, xi v1), (2, xi v2), (3, xi (I 250 3))] [] (xu I 250 6 v1) J P) ∧ (¬ (I 250 3) = 165 → ((¬ (I 250 3) = 166 → Q 0 (xu I 250 6 v1) J P) ∧ ((I 250 3) = 166 → G_RF_leafForm l V Q 52 [(0, xq (some 250)), (1, xi v1), (2, xi v2), (3, xi (I 250 3))] [] (xu I 250 6 v1) J P))))))) ∧ ((I 250 3) = 135 → ((30 < (v2 - v1) → Q 0 I J P) ∧ (¬ 30 < (v2 - v1) → Q 1 I J P))))) : G_RF_leafForm l V Q 0 [(0, xq (some 250)), (1, xi v1), (2, xi v2)] [] I J P := by
  refine xG_aload_n d_RF_leafForm_0 rfl rfl rfl ?_
  refine xG_geti d_RF_leafForm_1 xf_RF_83 rfl s0_250 ?_
  refine xG_istore_n (lv' := [(3, xi (I 250 3)), (0, xq (some 250)), (1, xi v1), (2, xi v2)]) d_RF_leafForm_4 rfl (Nat.le_of_ble_eq_true rfl) rfl ?_
  refine xG_iload_n d_RF_leafForm_5 rfl rfl ?_
  refine xG_sipush (v := 135) d_RF_leafForm_6 rfl ?_
  refine xG_icmp_ne (tgt := 26) d_RF_leafForm_9 (by decide) (fun c => ?_) (fun c => ?_)
  · have h := h.1 c
    refine xG_aload_n d_RF_leafForm_26 rfl rfl rfl ?_
    refine xG_iload_n d_RF_leafForm_27 rfl rfl ?_
    refine xG_puti d_RF_leafForm_28 xf_RF_92 (Or.inl rfl) rfl s0_250 rfl rfl ?_
    refine xG_iload_n d_RF_leafForm_31 rfl rfl ?_
    refine xG_sipush (v := 163) d_RF_leafForm_32 rfl ?_
    refine xG_icmp_eq (tgt := 52) d_RF_leafForm_35 (by decide) (fun c => ?_) (fun c => ?_)
    · have h := h.1 c
      refine xG_pick [1, 2, 3, 0] rfl ?_
      exact h
    · have h := h.2 c
      refine xG_iload_n d_RF_leafForm_38 rfl rfl ?_
      refine xG_sipush (v := 165) d_RF_leafForm_39 rfl ?_
      refine xG_icmp_eq (tgt := 52) d_RF_leafForm_42 (by decide) (fun c => ?_) (fun c => ?_)
      · have h := h.1 c
        refine xG_pick [1, 2, 3, 0] rfl ?_
        exact h
      · have h := h.2 c
        refine xG_iload_n d_RF_leafForm_45 rfl rfl ?_
        refine xG_sipush (v := 166) d_RF_leafForm_46 rfl ?_
        refine xG_icmp_ne (tgt := 86) d_RF_leafForm_49 (by decide) (fun c => ?_) (fun c => ?_)
        · have h := h.1 c
          refine xG_iconst (v := 0) d_RF_leafForm_86 rfl ?_
          exact xG_ireturn d_RF_leafForm_87 rfl rfl ⟨rfl, hL, _, rfl, h⟩
        · have h := h.2 c
          refine xG_pick [1, 2, 3, 0] rfl ?_
          exact h
  · have h := h.2 c
    refine xG_iload_n d_RF_leafForm_12 rfl rfl ?_
    refine xG_iload_n d_RF_leafForm_13 rfl rfl ?_
    refine xG_isub d_RF_leafForm_14 ?_
    refine xG_bipush (v := 30) d_RF_leafForm_15 rfl ?_
    refine xG_icmp_gt (tgt := 24) d_RF_leafForm_17 (by decide) (fun c => ?_) (fun c => ?_)
    · have h := h.1 c
      refine xG_iconst (v := 0) d_RF_leafForm_24 rfl ?_
      exact xG_ireturn d_RF_leafForm_25 rfl rfl ⟨rfl, hL, _, rfl, h⟩
    · have h := h.2 c
      refine xG_iconst (v := 1) d_RF_leafForm_20 rfl ?_
      refine xG_goto (tgt := 25) d_RF_leafForm_21 (by decide) ?_
      exact xG_ireturn d_RF_leafForm_25 rfl rfl ⟨rfl, hL, _, rfl, h⟩
set_option maxRecDepth 20000 in
theorem b_RF_leafForm_52 {l : Launch} {V : xV} {Q : Int32 → xIt → xJt → xPt → Prop} {I : xIt} {J : xJt} {P : xPt} (hL : xL P) {v1 : Int32} {v2 : Int32} {v3 : Int32} (h : (∃ Q1 : Int32 → xIt → xJt → xPt → Prop, xMet l V y_RF_take 2 0 0 [xq (some 250), xi 4, xi 30, xi v2] xS0 I J P (xPi Q1) ∧ ∀ (z1 : Int32) (I1 : xIt) (J1 : xJt) (P1 : xPt), Q1 z1 I1 J1 P1 → ((z1 = 0 → Q 0 I1 J1 P1) ∧ (¬ z1 = 0 → (∃ Q2 : Int32 → xIt → xJt → xPt → Prop, xMet l V y_RF_take 2 0 0 [xq (some 250), xi 4, xi 30, xi v2] xS0 I1 J1 P1 (xPi Q2) ∧ ∀ (z2 : Int32) (I2 : xIt) (J2 : xJt) (P2 : xPt), Q2 z2 I2 J2 P2 → ((z2 = 0 → Q 0 I2 J2 P2) ∧ (¬ z2 = 0 → ((¬ (I2 250 6) = v2 → Q 0 I2 J2 P2) ∧ ((I2 250 6) = v2 → Q 1 I2 J2 P2))))))))) : G_RF_leafForm l V Q 52 [(0, xq (some 250)), (1, xi v1), (2, xi v2), (3, xi v3)] [] I J P := by
  refine xG_aload_n d_RF_leafForm_52 rfl rfl rfl ?_
  refine xG_iconst (v := 4) d_RF_leafForm_53 rfl ?_
  refine xG_bipush (v := 30) d_RF_leafForm_54 rfl ?_
  refine xG_iload_n d_RF_leafForm_56 rfl rfl ?_
  obtain ⟨Q1, hM, h⟩ := h
  refine xG_callv (as := [xi 4, xi 30, xi v2]) (rest := []) d_RF_leafForm_57 yv_RF_take w4_191 rfl rfl rfl s0_250 (by decide) rfl hM ⟨by decide, by decide⟩ (Nat.le_of_ble_eq_true rfl) ⟨Nat.zero_le _, Nat.zero_le _⟩ (fun r S1 I1 J1 P1 hp => ?_)
  obtain ⟨rfl, hL1, z1, rfl, hq⟩ := hp
  have h := h z1 I1 J1 P1 hq
  refine xG_if_eq (tgt := 86) d_RF_leafForm_60 (by decide) (fun c => ?_) (fun c => ?_)
  · have h := h.1 c
    refine xG_iconst (v := 0) d_RF_leafForm_86 rfl ?_
    exact xG_ireturn d_RF_leafForm_87 rfl rfl ⟨rfl, hL1, _, rfl, h⟩
  · have h := h.2 c
    refine xG_aload_n d_RF_leafForm_63 rfl rfl rfl ?_
    refine xG_iconst (v := 4) d_RF_leafForm_64 rfl ?_
    refine xG_bipush (v := 30) d_RF_leafForm_65 rfl ?_
    refine xG_iload_n d_RF_leafForm_67 rfl rfl ?_
    obtain ⟨Q2, hM, h⟩ := h
    refine xG_callv (as := [xi 4, xi 30, xi v2]) (rest := []) d_RF_leafForm_68 yv_RF_take w4_191 rfl rfl rfl s0_250 (by decide) rfl hM ⟨by decide, by decide⟩ (Nat.le_of_ble_eq_true rfl) ⟨Nat.zero_le _, Nat.zero_le _⟩ (fun r S2 I2 J2 P2 hp => ?_)
    obtain ⟨rfl, hL2, z2, rfl, hq⟩ := hp
    have h := h z2 I2 J2 P2 hq
    refine xG_if_eq (tgt := 86) d_RF_leafForm_71 (by decide) (fun c => ?_) (fun c => ?_)
    · have h := h.1 c
      refine xG_iconst (v := 0) d_RF_leafForm_86 rfl ?_
      exact xG_ireturn d_RF_leafForm_87 rfl rfl ⟨rfl, hL2, _, rfl, h⟩
    · have h := h.2 c
      refine xG_aload_n d_RF_leafForm_74 rfl rfl rfl ?_
      refine xG_geti d_RF_leafForm_75 xf_RF_92 rfl s0_250 ?_
      refine xG_iload_n d_RF_leafForm_78 rfl rfl ?_
      refine xG_icmp_ne (tgt := 86) d_RF_leafForm_79 (by decide) (fun c => ?_) (fun c => ?_)
      · have h := h.1 c
        refine xG_iconst (v := 0) d_RF_leafForm_86 rfl ?_
        exact xG_ireturn d_RF_leafForm_87 rfl rfl ⟨rfl, hL2, _, rfl, h⟩
      · have h := h.2 c
        refine xG_iconst (v := 1) d_RF_leafForm_82 rfl ?_
        refine xG_goto (tgt := 87) d_RF_leafForm_83 (by decide) ?_
        exact xG_ireturn d_RF_leafForm_87 rfl rfl ⟨rfl, hL2, _, rfl, h⟩
theorem e_RF_leafForm {l : Launch} {V : xV} {Q : Int32 → xIt → xJt → xPt → Prop} {I : xIt} {J : xJt} {P : xPt} {v1 : Int32} {v2 : Int32} (h : G_RF_leafForm l V Q 0 [(0, xq (some 250)), (1, xi v1), (2, xi v2)] [] I J P) : xMet l V y_RF_leafForm 3 0 0 [xq (some 250), xi v1, xi v2] xS0 I J P (xPi Q) := xMet_of (by decide) (Nat.le_of_ble_eq_true rfl) h

abbrev G_RF_small (l : Launch) (V : xV) (Q : Int32 → xIt → xJt → xPt → Prop) (pc : Nat) (lv : List (Nat × xX)) (st : List xX) (I : xIt) (J : xJt) (P : xPt) : Prop := xG l V y_RF_small (xR 1 0 0) (xFn V y_RF_small (xR 1 0 0) (xPi Q)) pc lv st xS0 I J P (0, 0)
set_option maxRecDepth 20000 in
theorem b_RF_small_0 {l : Launch} {V : xV} {Q : Int32 → xIt → xJt → xPt → Prop} {I : xIt} {J : xJt} {P : xPt} (hL : xL P) {v0 : Int32} (h : ((v0 < 65 → Q v0 I J P) ∧ (¬ v0 < 65 → ((90 < v0 → Q v0 I J P) ∧ (¬ 90 < v0 → Q (v0 + 32) I J P))))) : G_RF_small l V Q 0 [(0, xi v0)] [] I J P := by
  refine xG_iload_n d_RF_small_0 rfl rfl ?_
  refine xG_bipush (v := 65) d_RF_small_1 rfl ?_
  refine xG_icmp_lt (tgt := 19) d_RF_small_3 (by decide) (fun c => ?_) (fun c => ?_)
  · have h := h.1 c
    refine xG_iload_n d_RF_small_19 rfl rfl ?_
    exact xG_ireturn d_RF_small_20 rfl rfl ⟨rfl, hL, _, rfl, h⟩
  · have h := h.2 c
    refine xG_iload_n d_RF_small_6 rfl rfl ?_
    refine xG_bipush (v := 90) d_RF_small_7 rfl ?_
    refine xG_icmp_gt (tgt := 19) d_RF_small_9 (by decide) (fun c => ?_) (fun c => ?_)
    · have h := h.1 c
      refine xG_iload_n d_RF_small_19 rfl rfl ?_
      exact xG_ireturn d_RF_small_20 rfl rfl ⟨rfl, hL, _, rfl, h⟩
    · have h := h.2 c
      refine xG_iload_n d_RF_small_12 rfl rfl ?_
      refine xG_bipush (v := 32) d_RF_small_13 rfl ?_
      refine xG_iadd d_RF_small_15 ?_
      refine xG_goto (tgt := 20) d_RF_small_16 (by decide) ?_
      exact xG_ireturn d_RF_small_20 rfl rfl ⟨rfl, hL, _, rfl, h⟩
theorem e_RF_small {l : Launch} {V : xV} {Q : Int32 → xIt → xJt → xPt → Prop} {I : xIt} {J : xJt} {P : xPt} {v0 : Int32} (h : G_RF_small l V Q 0 [(0, xi v0)] [] I J P) : xMet l V y_RF_small 1 0 0 [xi v0] xS0 I J P (xPi Q) := xMet_of (by decide) (Nat.le_of_ble_eq_true rfl) h

abbrev G_RF_typeAt (l : Launch) (V : xV) (Q : Int32 → xIt → xJt → xPt → Prop) (pc : Nat) (lv : List (Nat × xX)) (st : List xX) (I : xIt) (J : xJt) (P : xPt) : Prop := xG l V y_RF_typeAt (xR 2 0 0) (xFn V y_RF_typeAt (xR 2 0 0) (xPi Q)) pc lv st xS0 I J P (0, 0)
set_option maxRecDepth 20000 in
theorem b_RF_typeAt_0 {l : Launch} {V : xV} {Q : Int32 → xIt → xJt → xPt → Prop} {I : xIt} {J : xJt} {P : xPt} (hL : xL P) {v1 : Int32} {v2 : Int32} (h : ((¬ (v2 - v1) = 1 → G_RF_typeAt l V Q 20 [(0, xq (some 250)), (1, xi v1), (2, xi v2)] [xi 0] I J P) ∧ ((v2 - v1) = 1 → (vp_in v1 160 ∧ (∃ Q1 : Int32 → xIt → xJt → xPt → Prop, xMet l V y_RF_small 1 0 0 [xi (I 251 v1.toNatClampNeg)] xS0 I J P (xPi Q1) ∧ ∀ (z1 : Int32) (I1 : xIt) (J1 : xJt) (P1 : xPt), Q1 z1 I1 J1 P1 → G_RF_typeAt l V Q 20 [(0, xq (some 250)), (1, xi v1), (2, xi v2)] [xi z1] I1 J1 P1))))) : G_RF_typeAt l V Q 0 [(0, xq (some 250)), (1, xi v1), (2, xi v2)] [] I J P := by
  refine xG_iload_n d_RF_typeAt_0 rfl rfl ?_
  refine xG_iload_n d_RF_typeAt_1 rfl rfl ?_
  refine xG_isub d_RF_typeAt_2 ?_
  refine xG_iconst (v := 1) d_RF_typeAt_3 rfl ?_
  refine xG_icmp_ne (tgt := 19) d_RF_typeAt_4 (by decide) (fun c => ?_) (fun c => ?_)
  · have h := h.1 c
    refine xG_iconst (v := 0) d_RF_typeAt_19 rfl ?_
    exact h
  · have h := h.2 c
    refine xG_aload_n d_RF_typeAt_7 rfl rfl rfl ?_
    refine xG_getq d_RF_typeAt_8 xf_RF_7 rfl s0_250 ?_
    refine xG_iload_n d_RF_typeAt_11 rfl rfl ?_
    refine xG_iald d_RF_typeAt_12 (lp_250_2 hL) s0_251 h.1 ?_
    have h := h.2
    obtain ⟨Q1, hM, h⟩ := h
    refine xG_calls (as := [xi (I 251 v1.toNatClampNeg)]) (rest := []) d_RF_typeAt_13 ys_RF_small w5_23 rfl rfl hM ⟨by decide, by decide⟩ (Nat.le_of_ble_eq_true rfl) ⟨Nat.zero_le _, Nat.zero_le _⟩ (fun r S1 I1 J1 P1 hp => ?_)
    obtain ⟨rfl, hL1, z1, rfl, hq⟩ := hp
    have h := h z1 I1 J1 P1 hq
    refine xG_goto (tgt := 20) d_RF_typeAt_16 (by decide) ?_
    exact h
set_option maxRecDepth 20000 in
theorem b_RF_typeAt_20 {l : Launch} {V : xV} {Q : Int32 → xIt → xJt → xPt → Prop} {I : xIt} {J : xJt} {P : xPt} (hL : xL P) {v1 : Int32} {v2 : Int32} {u0 : Int32} (h : ((¬ u0 = 111 → ((¬ u0 = 110 → ((¬ u0 = 100 → ((¬ u0 = 105 → ((¬ u0 = 115 → Q (-1) I J P) ∧ (u0 = 115 → Q 4 I J P))) ∧ (u0 = 105 → Q 3 I J P))) ∧ (u0 = 100 → Q 2 I J P))) ∧ (u0 = 110 → Q 1 I J P))) ∧ (u0 = 111 → Q 0 I J P))) : G_RF_typeAt l V Q 20 [(0, xq (some 250)), (1, xi v1), (2, xi v2)] [xi u0] I J P := by
  refine xG_istore_n (lv' := [(3, xi u0), (0, xq (some 250)), (1, xi v1), (2, xi v2)]) d_RF_typeAt_20 rfl (Nat.le_of_ble_eq_true rfl) rfl ?_
  refine xG_iload_n d_RF_typeAt_21 rfl rfl ?_
  refine xG_bipush (v := 111) d_RF_typeAt_22 rfl ?_
  refine xG_icmp_ne (tgt := 31) d_RF_typeAt_24 (by decide) (fun c => ?_) (fun c => ?_)
  · have h := h.1 c
    refine xG_iload_n d_RF_typeAt_31 rfl rfl ?_
    refine xG_bipush (v := 110) d_RF_typeAt_32 rfl ?_
    refine xG_icmp_ne (tgt := 41) d_RF_typeAt_34 (by decide) (fun c => ?_) (fun c => ?_)
    · have h := h.1 c
      refine xG_iload_n d_RF_typeAt_41 rfl rfl ?_
      refine xG_bipush (v := 100) d_RF_typeAt_42 rfl ?_
      refine xG_icmp_ne (tgt := 51) d_RF_typeAt_44 (by decide) (fun c => ?_) (fun c => ?_)
      · have h := h.1 c
        refine xG_iload_n d_RF_typeAt_51 rfl rfl ?_
        refine xG_bipush (v := 105) d_RF_typeAt_52 rfl ?_
        refine xG_icmp_ne (tgt := 61) d_RF_typeAt_54 (by decide) (fun c => ?_) (fun c => ?_)
        · have h := h.1 c
          refine xG_iload_n d_RF_typeAt_61 rfl rfl ?_
          refine xG_bipush (v := 115) d_RF_typeAt_62 rfl ?_
          refine xG_icmp_ne (tgt := 71) d_RF_typeAt_64 (by decide) (fun c => ?_) (fun c => ?_)
          · have h := h.1 c
            refine xG_iconst (v := (-1)) d_RF_typeAt_71 rfl ?_
            exact xG_ireturn d_RF_typeAt_72 rfl rfl ⟨rfl, hL, _, rfl, h⟩
          · have h := h.2 c
            refine xG_iconst (v := 4) d_RF_typeAt_67 rfl ?_
            refine xG_goto (tgt := 72) d_RF_typeAt_68 (by decide) ?_
            exact xG_ireturn d_RF_typeAt_72 rfl rfl ⟨rfl, hL, _, rfl, h⟩
        · have h := h.2 c
          refine xG_iconst (v := 3) d_RF_typeAt_57 rfl ?_
          refine xG_goto (tgt := 72) d_RF_typeAt_58 (by decide) ?_
          exact xG_ireturn d_RF_typeAt_72 rfl rfl ⟨rfl, hL, _, rfl, h⟩
      · have h := h.2 c
        refine xG_iconst (v := 2) d_RF_typeAt_47 rfl ?_
        refine xG_goto (tgt := 72) d_RF_typeAt_48 (by decide) ?_
        exact xG_ireturn d_RF_typeAt_72 rfl rfl ⟨rfl, hL, _, rfl, h⟩
    · have h := h.2 c
      refine xG_iconst (v := 1) d_RF_typeAt_37 rfl ?_
      refine xG_goto (tgt := 72) d_RF_typeAt_38 (by decide) ?_
      exact xG_ireturn d_RF_typeAt_72 rfl rfl ⟨rfl, hL, _, rfl, h⟩
  · have h := h.2 c
    refine xG_iconst (v := 0) d_RF_typeAt_27 rfl ?_
    refine xG_goto (tgt := 72) d_RF_typeAt_28 (by decide) ?_
    exact xG_ireturn d_RF_typeAt_72 rfl rfl ⟨rfl, hL, _, rfl, h⟩
theorem e_RF_typeAt {l : Launch} {V : xV} {Q : Int32 → xIt → xJt → xPt → Prop} {I : xIt} {J : xJt} {P : xPt} {v1 : Int32} {v2 : Int32} (h : G_RF_typeAt l V Q 0 [(0, xq (some 250)), (1, xi v1), (2, xi v2)] [] I J P) : xMet l V y_RF_typeAt 2 0 0 [xq (some 250), xi v1, xi v2] xS0 I J P (xPi Q) := xMet_of (by decide) (Nat.le_of_ble_eq_true rfl) h

abbrev G_RF_load (l : Launch) (V : xV) (Q : xIt → xJt → xPt → Prop) (pc : Nat) (lv : List (Nat × xX)) (st : List xX) (I : xIt) (J : xJt) (P : xPt) : Prop := xG l V y_RF_load (xR 1 0 0) (xFn V y_RF_load (xR 1 0 0) (xPv Q)) pc lv st xS0 I J P (0, 0)
set_option maxRecDepth 20000 in
theorem b_RF_load_0 {l : Launch} {V : xV} {Q : xIt → xJt → xPt → Prop} {I : xIt} {J : xJt} {P : xPt} (hL : xL P) {v1 : Int32} {v2 : Int32} (h : G_RF_load l V Q 9 [(0, xq (some 250)), (1, xi v1), (2, xi v2), (3, xi 0)] [] (xu I 250 21 (v2 - v1)) J P) : G_RF_load l V Q 0 [(0, xq (some 250)), (1, xi v1), (2, xi v2)] [] I J P := by
  refine xG_aload_n d_RF_load_0 rfl rfl rfl ?_
  refine xG_iload_n d_RF_load_1 rfl rfl ?_
  refine xG_iload_n d_RF_load_2 rfl rfl ?_
  refine xG_isub d_RF_load_3 ?_
  refine xG_puti d_RF_load_4 xf_RF_184 (Or.inl rfl) rfl s0_250 rfl rfl ?_
  refine xG_iconst (v := 0) d_RF_load_7 rfl ?_
  refine xG_istore_n (lv' := [(3, xi 0), (0, xq (some 250)), (1, xi v1), (2, xi v2)]) d_RF_load_8 rfl (Nat.le_of_ble_eq_true rfl) rfl ?_
  refine xG_pick [1, 2, 3, 0] rfl ?_
  exact h
set_option maxRecDepth 20000 in
theorem b_RF_load_9 {l : Launch} {V : xV} {Q : xIt → xJt → xPt → Prop} {I : xIt} {J : xJt} {P : xPt} (hL : xL P) {v1 : Int32} {v2 : Int32} {v3 : Int32} (h : (((I 250 21) ≤ v3 → Q I J P) ∧ (¬ (I 250 21) ≤ v3 → (vp_in (v1 + v3) 160 ∧ (vp_in v3 32 ∧ G_RF_load l V Q 9 [(0, xq (some 250)), (1, xi v1), (2, xi v2), (3, xi (v3 + 1))] [] (xu I 254 v3.toNatClampNeg (I 251 ((v1 + v3).toNatClampNeg))) J P))))) : G_RF_load l V Q 9 [(0, xq (some 250)), (1, xi v1), (2, xi v2), (3, xi v3)] [] I J P := by
  refine xG_iload_n d_RF_load_9 rfl rfl ?_
  refine xG_aload_n d_RF_load_10 rfl rfl rfl ?_
  refine xG_geti d_RF_load_11 xf_RF_184 rfl s0_250 ?_
  refine xG_icmp_ge (tgt := 37) d_RF_load_14 (by decide) (fun c => ?_) (fun c => ?_)
  · have h := h.1 c
    exact xG_return d_RF_load_37 rfl ⟨rfl, hL, rfl, h⟩
  · have h := h.2 c
    refine xG_aload_n d_RF_load_17 rfl rfl rfl ?_
    refine xG_getq d_RF_load_18 xf_RF_19 rfl s0_250 ?_
    refine xG_iload_n d_RF_load_21 rfl rfl ?_
    refine xG_aload_n d_RF_load_22 rfl rfl rfl ?_
    refine xG_getq d_RF_load_23 xf_RF_7 rfl s0_250 ?_
    refine xG_iload_n d_RF_load_26 rfl rfl ?_
    refine xG_iload_n d_RF_load_27 rfl rfl ?_
    refine xG_iadd d_RF_load_28 ?_
    refine xG_iald d_RF_load_29 (lp_250_2 hL) s0_251 h.1 ?_
    have h := h.2
    refine xG_topi (x' := I 251 ((v1 + v3).toNatClampNeg)) (by first | rfl | exact xu_at | simp [xu]) ?_
    refine xG_iast d_RF_load_30 (lp_250_22 hL) s0_254 h.1 ?_
    have h := h.2
    refine xG_iinc (v := v3 + 1) (lv' := [(3, xi (v3 + 1)), (0, xq (some 250)), (1, xi v1), (2, xi v2)]) d_RF_load_31 rfl rfl (Nat.le_of_ble_eq_true rfl) rfl ?_
    refine xG_goto (tgt := 9) d_RF_load_34 (by decide) ?_
    refine xG_pick [1, 2, 3, 0] rfl ?_
    exact h
theorem e_RF_load {l : Launch} {V : xV} {Q : xIt → xJt → xPt → Prop} {I : xIt} {J : xJt} {P : xPt} {v1 : Int32} {v2 : Int32} (h : G_RF_load l V Q 0 [(0, xq (some 250)), (1, xi v1), (2, xi v2)] [] I J P) : xMet l V y_RF_load 1 0 0 [xq (some 250), xi v1, xi v2] xS0 I J P (xPv Q) := xMet_of (by decide) (Nat.le_of_ble_eq_true rfl) h

abbrev G_RF_formOf (l : Launch) (V : xV) (Q : Int32 → xIt → xJt → xPt → Prop) (pc : Nat) (lv : List (Nat × xX)) (st : List xX) (I : xIt) (J : xJt) (P : xPt) : Prop := xG l V y_RF_formOf (xR 3 0 0) (xFn V y_RF_formOf (xR 3 0 0) (xPi Q)) pc lv st xS0 I J P (0, 0)
set_option maxRecDepth 20000 in
theorem b_RF_formOf_0 {l : Launch} {V : xV} {Q : Int32 → xIt → xJt → xPt → Prop} {I : xIt} {J : xJt} {P : xPt} (hL : xL P) {v1 : Int32} {v2 : Int32} (h : (((I 250 21) < 1 → Q (-1) I J P) ∧ (¬ (I 250 21) < 1 → (((I 250 21) ≤ 6 → ((v1 = 1 → (∃ Q1 : Int32 → xIt → xJt → xPt → Prop, xMet l V y_RF_plainForm 2 0 0 [xq (some 250), xi (8 * v2)] xS0 I J P (xPi Q1) ∧ ∀ (z1 : Int32) (I1 : xIt) (J1 : xJt) (P1 : xPt), Q1 z1 I1 J1 P1 → Q z1 I1 J1 P1)) ∧ (¬ v1 = 1 → ((¬ v1 = 2 → ((v1 = 4 → G_RF_formOf l V Q 104 [(0, xq (some 250)), (1, xi v1), (2, xi v2), (3, xi 1), (4, xi 0)] [] I J P) ∧ (¬ v1 = 4 → ((¬ v1 = 0 → G_RF_formOf l V Q 83 [(0, xq (some 250)), (1, xi v1), (2, xi v2)] [] I J P) ∧ (v1 = 0 → ((¬ (I 250 21) = 1 → G_RF_formOf l V Q 83 [(0, xq (some 250)), (1, xi v1), (2, xi v2)] [] I J P) ∧ ((I 250 21) = 1 → (∃ Q2 : Int32 → xIt → xJt → xPt → Prop, xMet l V y_RF_small 1 0 0 [xi (I 254 0)] xS0 I J P (xPi Q2) ∧ ∀ (z2 : Int32) (I2 : xIt) (J2 : xJt) (P2 : xPt), Q2 z2 I2 J2 P2 → ((z2 < 97 → G_RF_formOf l V Q 83 [(0, xq (some 250)), (1, xi v1), (2, xi v2)] [] I2 J2 P2) ∧ (¬ z2 < 97 → (∃ Q3 : Int32 → xIt → xJt → xPt → Prop, xMet l V y_RF_small 1 0 0 [xi (I2 254 0)] xS0 I2 J2 P2 (xPi Q3) ∧ ∀ (z3 : Int32) (I3 : xIt) (J3 : xJt) (P3 : xPt), Q3 z3 I3 J3 P3 → ((z3 ≤ 122 → G_RF_formOf l V Q 104 [(0, xq (some 250)), (1, xi v1), (2, xi v2), (3, xi 1), (4, xi 0)] [] I3 J3 P3) ∧ (¬ z3 ≤ 122 → G_RF_formOf l V Q 83 [(0, xq (some 250)), (1, xi v1), (2, xi v2)] [] I3 J3 P3))))))))))))) ∧ (v1 = 2 → (∃ Q4 : Int32 → xIt → xJt → xPt → Prop, xMet l V y_RF_plainForm 2 0 0 [xq (some 250), xi (8 * v2)] xS0 I J P (xPi Q4) ∧ ∀ (z4 : Int32) (I4 : xIt) (J4 : xJt) (P4 : xPt), Q4 z4 I4 J4 P4 → Q z4 I4 J4 P4)))))) ∧ (¬ (I 250 21) ≤ 6 → Q (-1) I J P))))) : G_RF_formOf l V Q 0 [(0, xq (some 250)), (1, xi v1), (2, xi v2)] [] I J P := by
  refine xG_aload_n d_RF_formOf_0 rfl rfl rfl ?_
  refine xG_geti d_RF_formOf_1 xf_RF_184 rfl s0_250 ?_
  refine xG_iconst (v := 1) d_RF_formOf_4 rfl ?_
  refine xG_icmp_lt (tgt := 17) d_RF_formOf_5 (by decide) (fun c => ?_) (fun c => ?_)
  · have h := h.1 c
    refine xG_iconst (v := (-1)) d_RF_formOf_17 rfl ?_
    exact xG_ireturn d_RF_formOf_18 rfl rfl ⟨rfl, hL, _, rfl, h⟩
  · have h := h.2 c
    refine xG_aload_n d_RF_formOf_8 rfl rfl rfl ?_
    refine xG_geti d_RF_formOf_9 xf_RF_184 rfl s0_250 ?_
    refine xG_bipush (v := 6) d_RF_formOf_12 rfl ?_
    refine xG_icmp_le (tgt := 19) d_RF_formOf_14 (by decide) (fun c => ?_) (fun c => ?_)
    · have h := h.1 c
      refine xG_iload_n d_RF_formOf_19 rfl rfl ?_
      refine xG_iconst (v := 1) d_RF_formOf_20 rfl ?_
      refine xG_icmp_eq (tgt := 29) d_RF_formOf_21 (by decide) (fun c => ?_) (fun c => ?_)
      · have h := h.1 c
        refine xG_aload_n d_RF_formOf_29 rfl rfl rfl ?_
        refine xG_bipush (v := 8) d_RF_formOf_30 rfl ?_
        refine xG_iload_n d_RF_formOf_32 rfl rfl ?_
        refine xG_imul d_RF_formOf_33 ?_
        obtain ⟨Q1, hM, h⟩ := h
        refine xG_callv (as := [xi (8 * v2)]) (rest := []) d_RF_formOf_34 yv_RF_plainForm w5_34 rfl rfl rfl s0_250 (by decide) rfl hM ⟨by decide, by decide⟩ (Nat.le_of_ble_eq_true rfl) ⟨Nat.zero_le _, Nat.zero_le _⟩ (fun r S1 I1 J1 P1 hp => ?_)
        obtain ⟨rfl, hL1, z1, rfl, hq⟩ := hp
        have h := h z1 I1 J1 P1 hq
        exact xG_ireturn d_RF_formOf_37 rfl rfl ⟨rfl, hL1, _, rfl, h⟩
      · have h := h.2 c
        refine xG_iload_n d_RF_formOf_24 rfl rfl ?_
        refine xG_iconst (v := 2) d_RF_formOf_25 rfl ?_
        refine xG_icmp_ne (tgt := 38) d_RF_formOf_26 (by decide) (fun c => ?_) (fun c => ?_)
        · have h := h.1 c
          refine xG_iload_n d_RF_formOf_38 rfl rfl ?_
          refine xG_iconst (v := 4) d_RF_formOf_39 rfl ?_
          refine xG_icmp_eq (tgt := 95) d_RF_formOf_40 (by decide) (fun c => ?_) (fun c => ?_)
          · have h := h.1 c
            refine xG_iconst (v := 1) d_RF_formOf_95 rfl ?_
            refine xG_goto (tgt := 100) d_RF_formOf_96 (by decide) ?_
            refine xG_istore_n (lv' := [(3, xi 1), (0, xq (some 250)), (1, xi v1), (2, xi v2)]) d_RF_formOf_100 rfl (Nat.le_of_ble_eq_true rfl) rfl ?_
            refine xG_iconst (v := 0) d_RF_formOf_101 rfl ?_
            refine xG_istore (lv' := [(4, xi 0), (3, xi 1), (0, xq (some 250)), (1, xi v1), (2, xi v2)]) d_RF_formOf_102 (Nat.le_of_ble_eq_true rfl) rfl ?_
            refine xG_pick [2, 3, 4, 1, 0] rfl ?_
            exact h
          · have h := h.2 c
            refine xG_iload_n d_RF_formOf_43 rfl rfl ?_
            refine xG_if_ne (tgt := 83) d_RF_formOf_44 (by decide) (fun c => ?_) (fun c => ?_)
            · have h := h.1 c
              exact h
            · have h := h.2 c
              refine xG_aload_n d_RF_formOf_47 rfl rfl rfl ?_
              refine xG_geti d_RF_formOf_48 xf_RF_184 rfl s0_250 ?_
              refine xG_iconst (v := 1) d_RF_formOf_51 rfl ?_
              refine xG_icmp_ne (tgt := 83) d_RF_formOf_52 (by decide) (fun c => ?_) (fun c => ?_)
              · have h := h.1 c
                exact h
              · have h := h.2 c
                refine xG_aload_n d_RF_formOf_55 rfl rfl rfl ?_
                refine xG_getq d_RF_formOf_56 xf_RF_19 rfl s0_250 ?_
                refine xG_iconst (v := 0) d_RF_formOf_59 rfl ?_
                refine xG_iald d_RF_formOf_60 (lp_250_22 hL) s0_254 (x_vp (by decide)) ?_
                refine xG_topi (x' := I 254 0) (by first | rfl | exact xu_at | simp [xu]) ?_
                obtain ⟨Q2, hM, h⟩ := h
                refine xG_calls (as := [xi (I 254 0)]) (rest := []) d_RF_formOf_61 ys_RF_small w5_23 rfl rfl hM ⟨by decide, by decide⟩ (Nat.le_of_ble_eq_true rfl) ⟨Nat.zero_le _, Nat.zero_le _⟩ (fun r S2 I2 J2 P2 hp => ?_)
                obtain ⟨rfl, hL2, z2, rfl, hq⟩ := hp
                have h := h z2 I2 J2 P2 hq
                refine xG_bipush (v := 97) d_RF_formOf_64 rfl ?_
                refine xG_icmp_lt (tgt := 83) d_RF_formOf_66 (by decide) (fun c => ?_) (fun c => ?_)
                · have h := h.1 c
                  exact h
                · have h := h.2 c
                  refine xG_aload_n d_RF_formOf_69 rfl rfl rfl ?_
                  refine xG_getq d_RF_formOf_70 xf_RF_19 rfl s0_250 ?_
                  refine xG_iconst (v := 0) d_RF_formOf_73 rfl ?_
                  refine xG_iald d_RF_formOf_74 (lp_250_22 hL2) s0_254 (x_vp (by decide)) ?_
                  refine xG_topi (x' := I2 254 0) (by first | rfl | exact xu_at | simp [xu]) ?_
                  obtain ⟨Q3, hM, h⟩ := h
                  refine xG_calls (as := [xi (I2 254 0)]) (rest := []) d_RF_formOf_75 ys_RF_small w5_23 rfl rfl hM ⟨by decide, by decide⟩ (Nat.le_of_ble_eq_true rfl) ⟨Nat.zero_le _, Nat.zero_le _⟩ (fun r S3 I3 J3 P3 hp => ?_)
                  obtain ⟨rfl, hL3, z3, rfl, hq⟩ := hp
                  have h := h z3 I3 J3 P3 hq
                  refine xG_bipush (v := 122) d_RF_formOf_78 rfl ?_
                  refine xG_icmp_le (tgt := 95) d_RF_formOf_80 (by decide) (fun c => ?_) (fun c => ?_)
                  · have h := h.1 c
                    refine xG_iconst (v := 1) d_RF_formOf_95 rfl ?_
                    refine xG_goto (tgt := 100) d_RF_formOf_96 (by decide) ?_
                    refine xG_istore_n (lv' := [(3, xi 1), (0, xq (some 250)), (1, xi v1), (2, xi v2)]) d_RF_formOf_100 rfl (Nat.le_of_ble_eq_true rfl) rfl ?_
                    refine xG_iconst (v := 0) d_RF_formOf_101 rfl ?_
                    refine xG_istore (lv' := [(4, xi 0), (3, xi 1), (0, xq (some 250)), (1, xi v1), (2, xi v2)]) d_RF_formOf_102 (Nat.le_of_ble_eq_true rfl) rfl ?_
                    refine xG_pick [2, 3, 4, 1, 0] rfl ?_
                    exact h
                  · have h := h.2 c
                    exact h
        · have h := h.2 c
          refine xG_aload_n d_RF_formOf_29 rfl rfl rfl ?_
          refine xG_bipush (v := 8) d_RF_formOf_30 rfl ?_
          refine xG_iload_n d_RF_formOf_32 rfl rfl ?_
          refine xG_imul d_RF_formOf_33 ?_
          obtain ⟨Q4, hM, h⟩ := h
          refine xG_callv (as := [xi (8 * v2)]) (rest := []) d_RF_formOf_34 yv_RF_plainForm w5_34 rfl rfl rfl s0_250 (by decide) rfl hM ⟨by decide, by decide⟩ (Nat.le_of_ble_eq_true rfl) ⟨Nat.zero_le _, Nat.zero_le _⟩ (fun r S4 I4 J4 P4 hp => ?_)
          obtain ⟨rfl, hL4, z4, rfl, hq⟩ := hp
          have h := h z4 I4 J4 P4 hq
          exact xG_ireturn d_RF_formOf_37 rfl rfl ⟨rfl, hL4, _, rfl, h⟩
    · have h := h.2 c
      refine xG_iconst (v := (-1)) d_RF_formOf_17 rfl ?_
      exact xG_ireturn d_RF_formOf_18 rfl rfl ⟨rfl, hL, _, rfl, h⟩
set_option maxRecDepth 20000 in
theorem b_RF_formOf_83 {l : Launch} {V : xV} {Q : Int32 → xIt → xJt → xPt → Prop} {I : xIt} {J : xJt} {P : xPt} (hL : xL P) {v1 : Int32} {v2 : Int32} (h : ((¬ v1 = 3 → G_RF_formOf l V Q 104 [(0, xq (some 250)), (1, xi v1), (2, xi v2), (3, xi 0), (4, xi 0)] [] I J P) ∧ (v1 = 3 → (∃ Q1 : Int32 → xIt → xJt → xPt → Prop, xMet l V y_RF_isNumber 1 0 0 [xq (some 250)] xS0 I J P (xPi Q1) ∧ ∀ (z1 : Int32) (I1 : xIt) (J1 : xJt) (P1 : xPt), Q1 z1 I1 J1 P1 → ((z1 = 0 → G_RF_formOf l V Q 104 [(0, xq (some 250)), (1, xi v1), (2, xi v2), (3, xi 0), (4, xi 0)] [] I1 J1 P1) ∧ (¬ z1 = 0 → G_RF_formOf l V Q 104 [(0, xq (some 250)), (1, xi v1), (2, xi v2), (3, xi 1), (4, xi 0)] [] I1 J1 P1)))))) : G_RF_formOf l V Q 83 [(0, xq (some 250)), (1, xi v1), (2, xi v2)] [] I J P := by
  refine xG_iload_n d_RF_formOf_83 rfl rfl ?_
  refine xG_iconst (v := 3) d_RF_formOf_84 rfl ?_
  refine xG_icmp_ne (tgt := 99) d_RF_formOf_85 (by decide) (fun c => ?_) (fun c => ?_)
  · have h := h.1 c
    refine xG_iconst (v := 0) d_RF_formOf_99 rfl ?_
    refine xG_istore_n (lv' := [(3, xi 0), (0, xq (some 250)), (1, xi v1), (2, xi v2)]) d_RF_formOf_100 rfl (Nat.le_of_ble_eq_true rfl) rfl ?_
    refine xG_iconst (v := 0) d_RF_formOf_101 rfl ?_
    refine xG_istore (lv' := [(4, xi 0), (3, xi 0), (0, xq (some 250)), (1, xi v1), (2, xi v2)]) d_RF_formOf_102 (Nat.le_of_ble_eq_true rfl) rfl ?_
    refine xG_pick [2, 3, 4, 1, 0] rfl ?_
    exact h
  · have h := h.2 c
    refine xG_aload_n d_RF_formOf_88 rfl rfl rfl ?_
    obtain ⟨Q1, hM, h⟩ := h
    refine xG_callv (as := []) (rest := []) d_RF_formOf_89 yv_RF_isNumber w5_38 rfl rfl rfl s0_250 (by decide) rfl hM ⟨by decide, by decide⟩ (Nat.le_of_ble_eq_true rfl) ⟨Nat.zero_le _, Nat.zero_le _⟩ (fun r S1 I1 J1 P1 hp => ?_)
    obtain ⟨rfl, hL1, z1, rfl, hq⟩ := hp
    have h := h z1 I1 J1 P1 hq
    refine xG_if_eq (tgt := 99) d_RF_formOf_92 (by decide) (fun c => ?_) (fun c => ?_)
    · have h := h.1 c
      refine xG_iconst (v := 0) d_RF_formOf_99 rfl ?_
      refine xG_istore_n (lv' := [(3, xi 0), (0, xq (some 250)), (1, xi v1), (2, xi v2)]) d_RF_formOf_100 rfl (Nat.le_of_ble_eq_true rfl) rfl ?_
      refine xG_iconst (v := 0) d_RF_formOf_101 rfl ?_
      refine xG_istore (lv' := [(4, xi 0), (3, xi 0), (0, xq (some 250)), (1, xi v1), (2, xi v2)]) d_RF_formOf_102 (Nat.le_of_ble_eq_true rfl) rfl ?_
      refine xG_pick [2, 3, 4, 1, 0] rfl ?_
      exact h
    · have h := h.2 c
      refine xG_iconst (v := 1) d_RF_formOf_95 rfl ?_
      refine xG_goto (tgt := 100) d_RF_formOf_96 (by decide) ?_
      refine xG_istore_n (lv' := [(3, xi 1), (0, xq (some 250)), (1, xi v1), (2, xi v2)]) d_RF_formOf_100 rfl (Nat.le_of_ble_eq_true rfl) rfl ?_
      refine xG_iconst (v := 0) d_RF_formOf_101 rfl ?_
      refine xG_istore (lv' := [(4, xi 0), (3, xi 1), (0, xq (some 250)), (1, xi v1), (2, xi v2)]) d_RF_formOf_102 (Nat.le_of_ble_eq_true rfl) rfl ?_
      refine xG_pick [2, 3, 4, 1, 0] rfl ?_
      exact h
set_option maxRecDepth 20000 in
theorem b_RF_formOf_104 {l : Launch} {V : xV} {Q : Int32 → xIt → xJt → xPt → Prop} {I : xIt} {J : xJt} {P : xPt} (hL : xL P) {v1 : Int32} {v2 : Int32} {v3 : Int32} {v4 : Int32} (h : (((I 250 21) ≤ v4 → ((v3 = 0 → Q (-1) I J P) ∧ (¬ v3 = 0 → Q (I 250 21) I J P))) ∧ (¬ (I 250 21) ≤ v4 → ((¬ v1 = 0 → (vp_in v4 32 ∧ (vp_in ((8 * v2) + v4) 40 ∧ G_RF_formOf l V Q 104 [(0, xq (some 250)), (1, xi v1), (2, xi v2), (3, xi v3), (4, xi (v4 + 1))] [] (xu I 255 (((8 * v2) + v4).toNatClampNeg) (I 254 v4.toNatClampNeg)) J P))) ∧ (v1 = 0 → (vp_in v4 32 ∧ (∃ Q1 : Int32 → xIt → xJt → xPt → Prop, xMet l V y_RF_small 1 0 0 [xi (I 254 v4.toNatClampNeg)] xS0 I J P (xPi Q1) ∧ ∀ (z1 : Int32) (I1 : xIt) (J1 : xJt) (P1 : xPt), Q1 z1 I1 J1 P1 → (vp_in ((8 * v2) + v4) 40 ∧ G_RF_formOf l V Q 104 [(0, xq (some 250)), (1, xi v1), (2, xi v2), (3, xi v3), (4, xi (v4 + 1))] [] (xu I1 255 (((8 * v2) + v4).toNatClampNeg) z1) J1 P1)))))))) : G_RF_formOf l V Q 104 [(0, xq (some 250)), (1, xi v1), (2, xi v2), (3, xi v3), (4, xi v4)] [] I J P := by
  refine xG_iload d_RF_formOf_104 rfl ?_
  refine xG_aload_n d_RF_formOf_106 rfl rfl rfl ?_
  refine xG_geti d_RF_formOf_107 xf_RF_184 rfl s0_250 ?_
  refine xG_icmp_ge (tgt := 155) d_RF_formOf_110 (by decide) (fun c => ?_) (fun c => ?_)
  · have h := h.1 c
    refine xG_iload_n d_RF_formOf_155 rfl rfl ?_
    refine xG_if_eq (tgt := 166) d_RF_formOf_156 (by decide) (fun c => ?_) (fun c => ?_)
    · have h := h.1 c
      refine xG_iconst (v := (-1)) d_RF_formOf_166 rfl ?_
      exact xG_ireturn d_RF_formOf_167 rfl rfl ⟨rfl, hL, _, rfl, h⟩
    · have h := h.2 c
      refine xG_aload_n d_RF_formOf_159 rfl rfl rfl ?_
      refine xG_geti d_RF_formOf_160 xf_RF_184 rfl s0_250 ?_
      refine xG_goto (tgt := 167) d_RF_formOf_163 (by decide) ?_
      exact xG_ireturn d_RF_formOf_167 rfl rfl ⟨rfl, hL, _, rfl, h⟩
  · have h := h.2 c
    refine xG_aload_n d_RF_formOf_113 rfl rfl rfl ?_
    refine xG_getq d_RF_formOf_114 xf_RF_22 rfl s0_250 ?_
    refine xG_bipush (v := 8) d_RF_formOf_117 rfl ?_
    refine xG_iload_n d_RF_formOf_119 rfl rfl ?_
    refine xG_imul d_RF_formOf_120 ?_
    refine xG_iload d_RF_formOf_121 rfl ?_
    refine xG_iadd d_RF_formOf_123 ?_
    refine xG_iload_n d_RF_formOf_124 rfl rfl ?_
    refine xG_if_ne (tgt := 141) d_RF_formOf_125 (by decide) (fun c => ?_) (fun c => ?_)
    · have h := h.1 c
      refine xG_aload_n d_RF_formOf_141 rfl rfl rfl ?_
      refine xG_getq d_RF_formOf_142 xf_RF_19 rfl s0_250 ?_
      refine xG_iload d_RF_formOf_145 rfl ?_
      refine xG_iald d_RF_formOf_147 (lp_250_22 hL) s0_254 h.1 ?_
      have h := h.2
      refine xG_iast d_RF_formOf_148 (lp_250_23 hL) s0_255 h.1 ?_
      have h := h.2
      refine xG_iinc (v := v4 + 1) (lv' := [(4, xi (v4 + 1)), (0, xq (some 250)), (1, xi v1), (2, xi v2), (3, xi v3)]) d_RF_formOf_149 rfl rfl (Nat.le_of_ble_eq_true rfl) rfl ?_
      refine xG_goto (tgt := 104) d_RF_formOf_152 (by decide) ?_
      refine xG_pick [1, 2, 3, 4, 0] rfl ?_
      exact h
    · have h := h.2 c
      refine xG_aload_n d_RF_formOf_128 rfl rfl rfl ?_
      refine xG_getq d_RF_formOf_129 xf_RF_19 rfl s0_250 ?_
      refine xG_iload d_RF_formOf_132 rfl ?_
      refine xG_iald d_RF_formOf_134 (lp_250_22 hL) s0_254 h.1 ?_
      have h := h.2
      obtain ⟨Q1, hM, h⟩ := h
      refine xG_calls (as := [xi (I 254 v4.toNatClampNeg)]) (rest := [xi ((8 * v2) + v4), xq (P 250 23)]) d_RF_formOf_135 ys_RF_small w5_23 rfl rfl hM ⟨by decide, by decide⟩ (Nat.le_of_ble_eq_true rfl) ⟨Nat.zero_le _, Nat.zero_le _⟩ (fun r S1 I1 J1 P1 hp => ?_)
      obtain ⟨rfl, hL1, z1, rfl, hq⟩ := hp
      have h := h z1 I1 J1 P1 hq
      refine xG_goto (tgt := 148) d_RF_formOf_138 (by decide) ?_
      refine xG_iast d_RF_formOf_148 (lp_250_23 hL) s0_255 h.1 ?_
      have h := h.2
      refine xG_iinc (v := v4 + 1) (lv' := [(4, xi (v4 + 1)), (0, xq (some 250)), (1, xi v1), (2, xi v2), (3, xi v3)]) d_RF_formOf_149 rfl rfl (Nat.le_of_ble_eq_true rfl) rfl ?_
      refine xG_goto (tgt := 104) d_RF_formOf_152 (by decide) ?_
      refine xG_pick [1, 2, 3, 4, 0] rfl ?_
      exact h
theorem e_RF_formOf {l : Launch} {V : xV} {Q : Int32 → xIt → xJt → xPt → Prop} {I : xIt} {J : xJt} {P : xPt} {v1 : Int32} {v2 : Int32} (h : G_RF_formOf l V Q 0 [(0, xq (some 250)), (1, xi v1), (2, xi v2)] [] I J P) : xMet l V y_RF_formOf 3 0 0 [xq (some 250), xi v1, xi v2] xS0 I J P (xPi Q) := xMet_of (by decide) (Nat.le_of_ble_eq_true rfl) h

abbrev G_RF_plainForm (l : Launch) (V : xV) (Q : Int32 → xIt → xJt → xPt → Prop) (pc : Nat) (lv : List (Nat × xX)) (st : List xX) (I : xIt) (J : xJt) (P : xPt) : Prop := xG l V y_RF_plainForm (xR 2 0 0) (xFn V y_RF_plainForm (xR 2 0 0) (xPi Q)) pc lv st xS0 I J P (0, 0)
set_option maxRecDepth 20000 in
theorem b_RF_plainForm_0 {l : Launch} {V : xV} {Q : Int32 → xIt → xJt → xPt → Prop} {I : xIt} {J : xJt} {P : xPt} (hL : xL P) {v1 : Int32} (h : G_RF_plainForm l V Q 7 [(0, xq (some 250)), (1, xi v1), (2, xi 0), (3, xi 0), (4, xi 0)] [] I J P) : G_RF_plainForm l V Q 0 [(0, xq (some 250)), (1, xi v1)] [] I J P := by
  refine xG_iconst (v := 0) d_RF_plainForm_0 rfl ?_
  refine xG_istore_n (lv' := [(2, xi 0), (0, xq (some 250)), (1, xi v1)]) d_RF_plainForm_1 rfl (Nat.le_of_ble_eq_true rfl) rfl ?_
  refine xG_iconst (v := 0) d_RF_plainForm_2 rfl ?_
  refine xG_istore_n (lv' := [(3, xi 0), (2, xi 0), (0, xq (some 250)), (1, xi v1)]) d_RF_plainForm_3 rfl (Nat.le_of_ble_eq_true rfl) rfl ?_
  refine xG_iconst (v := 0) d_RF_plainForm_4 rfl ?_
  refine xG_istore (lv' := [(4, xi 0), (3, xi 0), (2, xi 0), (0, xq (some 250)), (1, xi v1)]) d_RF_plainForm_5 (Nat.le_of_ble_eq_true rfl) rfl ?_
  refine xG_pick [3, 4, 2, 1, 0] rfl ?_
  exact h
set_option maxRecDepth 20000 in
theorem b_RF_plainForm_7 {l : Launch} {V : xV} {Q : Int32 → xIt → xJt → xPt → Prop} {I : xIt} {J : xJt} {P : xPt} (hL : xL P) {v1 : Int32} {v2 : Int32} {v3 : Int32} {v4 : Int32} (h : (((I 250 21) ≤ v4 → ((¬ v2 = 0 → Q v2 I J P) ∧ (v2 = 0 → Q (-1) I J P))) ∧ (¬ (I 250 21) ≤ v4 → (vp_in v4 32 ∧ (((I 254 v4.toNatClampNeg) < 32 → Q (-1) I J P) ∧ (¬ (I 254 v4.toNatClampNeg) < 32 → (((I 254 v4.toNatClampNeg) ≤ 126 → ((¬ (I 254 v4.toNatClampNeg) = 32 → ((v3 = 0 → (∃ Q1 : Int32 → xIt → xJt → xPt → Prop, xMet l V y_RF_small 1 0 0 [xi (I 254 v4.toNatClampNeg)] xS0 I J P (xPi Q1) ∧ ∀ (z1 : Int32) (I1 : xIt) (J1 : xJt) (P1 : xPt), Q1 z1 I1 J1 P1 → (vp_in (v1 + v2) 40 ∧ G_RF_plainForm l V Q 7 [(0, xq (some 250)), (1, xi v1), (2, xi (v2 + 1)), (3, xi 0), (4, xi (v4 + 1))] [] (xu I1 255 ((v1 + v2).toNatClampNeg) z1) J1 P1))) ∧ (¬ v3 = 0 → (vp_in (v1 + v2) 40 ∧ (∃ Q2 : Int32 → xIt → xJt → xPt → Prop, xMet l V y_RF_small 1 0 0 [xi (I 254 v4.toNatClampNeg)] xS0 (xu I 255 ((v1 + v2).toNatClampNeg) 32) J P (xPi Q2) ∧ ∀ (z2 : Int32) (I2 : xIt) (J2 : xJt) (P2 : xPt), Q2 z2 I2 J2 P2 → (vp_in (v1 + (v2 + 1)) 40 ∧ G_RF_plainForm l V Q 7 [(0, xq (some 250)), (1, xi v1), (2, xi ((v2 + 1) + 1)), (3, xi 0), (4, xi (v4 + 1))] [] (xu I2 255 ((v1 + (v2 + 1)).toNatClampNeg) z2) J2 P2)))))) ∧ ((I 254 v4.toNatClampNeg) = 32 → ((v2 ≤ 0 → G_RF_plainForm l V Q 7 [(0, xq (some 250)), (1, xi v1), (2, xi v2), (3, xi 0), (4, xi (v4 + 1))] [] I J P) ∧ (¬ v2 ≤ 0 → G_RF_plainForm l V Q 7 [(0, xq (some 250)), (1, xi v1), (2, xi v2), (3, xi 1), (4, xi (v4 + 1))] [] I J P))))) ∧ (¬ (I 254 v4.toNatClampNeg) ≤ 126 → Q (-1) I J P)))))))) : G_RF_plainForm l V Q 7 [(0, xq (some 250)), (1, xi v1), (2, xi v2), (3, xi v3), (4, xi v4)] [] I J P := by
  refine xG_iload d_RF_plainForm_7 rfl ?_
  refine xG_aload_n d_RF_plainForm_9 rfl rfl rfl ?_
  refine xG_geti d_RF_plainForm_10 xf_RF_184 rfl s0_250 ?_
  refine xG_icmp_ge (tgt := 102) d_RF_plainForm_13 (by decide) (fun c => ?_) (fun c => ?_)
  · have h := h.1 c
    refine xG_iload_n d_RF_plainForm_102 rfl rfl ?_
    refine xG_if_ne (tgt := 110) d_RF_plainForm_103 (by decide) (fun c => ?_) (fun c => ?_)
    · have h := h.1 c
      refine xG_iload_n d_RF_plainForm_110 rfl rfl ?_
      exact xG_ireturn d_RF_plainForm_111 rfl rfl ⟨rfl, hL, _, rfl, h⟩
    · have h := h.2 c
      refine xG_iconst (v := (-1)) d_RF_plainForm_106 rfl ?_
      refine xG_goto (tgt := 111) d_RF_plainForm_107 (by decide) ?_
      exact xG_ireturn d_RF_plainForm_111 rfl rfl ⟨rfl, hL, _, rfl, h⟩
  · have h := h.2 c
    refine xG_aload_n d_RF_plainForm_16 rfl rfl rfl ?_
    refine xG_getq d_RF_plainForm_17 xf_RF_19 rfl s0_250 ?_
    refine xG_iload d_RF_plainForm_20 rfl ?_
    refine xG_iald d_RF_plainForm_22 (lp_250_22 hL) s0_254 h.1 ?_
    have h := h.2
    refine xG_istore (lv' := [(5, xi (I 254 v4.toNatClampNeg)), (0, xq (some 250)), (1, xi v1), (2, xi v2), (3, xi v3), (4, xi v4)]) d_RF_plainForm_23 (Nat.le_of_ble_eq_true rfl) rfl ?_
    refine xG_iload d_RF_plainForm_25 rfl ?_
    refine xG_bipush (v := 32) d_RF_plainForm_27 rfl ?_
    refine xG_icmp_lt (tgt := 39) d_RF_plainForm_29 (by decide) (fun c => ?_) (fun c => ?_)
    · have h := h.1 c
      refine xG_iconst (v := (-1)) d_RF_plainForm_39 rfl ?_
      exact xG_ireturn d_RF_plainForm_40 rfl rfl ⟨rfl, hL, _, rfl, h⟩
    · have h := h.2 c
      refine xG_iload d_RF_plainForm_32 rfl ?_
      refine xG_bipush (v := 126) d_RF_plainForm_34 rfl ?_
      refine xG_icmp_le (tgt := 41) d_RF_plainForm_36 (by decide) (fun c => ?_) (fun c => ?_)
      · have h := h.1 c
        refine xG_iload d_RF_plainForm_41 rfl ?_
        refine xG_bipush (v := 32) d_RF_plainForm_43 rfl ?_
        refine xG_icmp_ne (tgt := 61) d_RF_plainForm_45 (by decide) (fun c => ?_) (fun c => ?_)
        · have h := h.1 c
          refine xG_iload_n d_RF_plainForm_61 rfl rfl ?_
          refine xG_if_eq (tgt := 78) d_RF_plainForm_62 (by decide) (fun c => ?_) (fun c => ?_)
          · have h := h.1 c
            refine xG_iconst (v := 0) d_RF_plainForm_78 rfl ?_
            refine xG_istore_n (lv' := [(3, xi 0), (5, xi (I 254 v4.toNatClampNeg)), (0, xq (some 250)), (1, xi v1), (2, xi v2), (4, xi v4)]) d_RF_plainForm_79 rfl (Nat.le_of_ble_eq_true rfl) rfl ?_
            refine xG_aload_n d_RF_plainForm_80 rfl rfl rfl ?_
            refine xG_getq d_RF_plainForm_81 xf_RF_22 rfl s0_250 ?_
            refine xG_iload_n d_RF_plainForm_84 rfl rfl ?_
            refine xG_iload_n d_RF_plainForm_85 rfl rfl ?_
            refine xG_iadd d_RF_plainForm_86 ?_
            refine xG_iload d_RF_plainForm_87 rfl ?_
            obtain ⟨Q1, hM, h⟩ := h
            refine xG_calls (as := [xi (I 254 v4.toNatClampNeg)]) (rest := [xi (v1 + v2), xq (P 250 23)]) d_RF_plainForm_89 ys_RF_small w5_23 rfl rfl hM ⟨by decide, by decide⟩ (Nat.le_of_ble_eq_true rfl) ⟨Nat.zero_le _, Nat.zero_le _⟩ (fun r S1 I1 J1 P1 hp => ?_)
            obtain ⟨rfl, hL1, z1, rfl, hq⟩ := hp
            have h := h z1 I1 J1 P1 hq
            refine xG_iast d_RF_plainForm_92 (lp_250_23 hL) s0_255 h.1 ?_
            have h := h.2
            refine xG_iinc (v := v2 + 1) (lv' := [(2, xi (v2 + 1)), (3, xi 0), (5, xi (I 254 v4.toNatClampNeg)), (0, xq (some 250)), (1, xi v1), (4, xi v4)]) d_RF_plainForm_93 rfl rfl (Nat.le_of_ble_eq_true rfl) rfl ?_
            refine xG_iinc (v := v4 + 1) (lv' := [(4, xi (v4 + 1)), (2, xi (v2 + 1)), (3, xi 0), (5, xi (I 254 v4.toNatClampNeg)), (0, xq (some 250)), (1, xi v1)]) d_RF_plainForm_96 rfl rfl (Nat.le_of_ble_eq_true rfl) rfl ?_
            refine xG_goto (tgt := 7) d_RF_plainForm_99 (by decide) ?_
            refine xG_pick [4, 5, 1, 2, 0] rfl ?_
            exact h
          · have h := h.2 c
            refine xG_aload_n d_RF_plainForm_65 rfl rfl rfl ?_
            refine xG_getq d_RF_plainForm_66 xf_RF_22 rfl s0_250 ?_
            refine xG_iload_n d_RF_plainForm_69 rfl rfl ?_
            refine xG_iload_n d_RF_plainForm_70 rfl rfl ?_
            refine xG_iadd d_RF_plainForm_71 ?_
            refine xG_bipush (v := 32) d_RF_plainForm_72 rfl ?_
            refine xG_iast d_RF_plainForm_74 (lp_250_23 hL) s0_255 h.1 ?_
            have h := h.2
            refine xG_iinc (v := v2 + 1) (lv' := [(2, xi (v2 + 1)), (5, xi (I 254 v4.toNatClampNeg)), (0, xq (some 250)), (1, xi v1), (3, xi v3), (4, xi v4)]) d_RF_plainForm_75 rfl rfl (Nat.le_of_ble_eq_true rfl) rfl ?_
            refine xG_iconst (v := 0) d_RF_plainForm_78 rfl ?_
            refine xG_istore_n (lv' := [(3, xi 0), (2, xi (v2 + 1)), (5, xi (I 254 v4.toNatClampNeg)), (0, xq (some 250)), (1, xi v1), (4, xi v4)]) d_RF_plainForm_79 rfl (Nat.le_of_ble_eq_true rfl) rfl ?_
            refine xG_aload_n d_RF_plainForm_80 rfl rfl rfl ?_
            refine xG_getq d_RF_plainForm_81 xf_RF_22 rfl s0_250 ?_
            refine xG_iload_n d_RF_plainForm_84 rfl rfl ?_
            refine xG_iload_n d_RF_plainForm_85 rfl rfl ?_
            refine xG_iadd d_RF_plainForm_86 ?_
            refine xG_iload d_RF_plainForm_87 rfl ?_
            obtain ⟨Q2, hM, h⟩ := h
            refine xG_calls (as := [xi (I 254 v4.toNatClampNeg)]) (rest := [xi (v1 + (v2 + 1)), xq (P 250 23)]) d_RF_plainForm_89 ys_RF_small w5_23 rfl rfl hM ⟨by decide, by decide⟩ (Nat.le_of_ble_eq_true rfl) ⟨Nat.zero_le _, Nat.zero_le _⟩ (fun r S2 I2 J2 P2 hp => ?_)
            obtain ⟨rfl, hL2, z2, rfl, hq⟩ := hp
            have h := h z2 I2 J2 P2 hq
            refine xG_iast d_RF_plainForm_92 (lp_250_23 hL) s0_255 h.1 ?_
            have h := h.2
            refine xG_iinc (v := (v2 + 1) + 1) (lv' := [(2, xi ((v2 + 1) + 1)), (3, xi 0), (5, xi (I 254 v4.toNatClampNeg)), (0, xq (some 250)), (1, xi v1), (4, xi v4)]) d_RF_plainForm_93 rfl rfl (Nat.le_of_ble_eq_true rfl) rfl ?_
            refine xG_iinc (v := v4 + 1) (lv' := [(4, xi (v4 + 1)), (2, xi ((v2 + 1) + 1)), (3, xi 0), (5, xi (I 254 v4.toNatClampNeg)), (0, xq (some 250)), (1, xi v1)]) d_RF_plainForm_96 rfl rfl (Nat.le_of_ble_eq_true rfl) rfl ?_
            refine xG_goto (tgt := 7) d_RF_plainForm_99 (by decide) ?_
            refine xG_pick [4, 5, 1, 2, 0] rfl ?_
            exact h
        · have h := h.2 c
          refine xG_iload_n d_RF_plainForm_48 rfl rfl ?_
          refine xG_if_le (tgt := 56) d_RF_plainForm_49 (by decide) (fun c => ?_) (fun c => ?_)
          · have h := h.1 c
            refine xG_iconst (v := 0) d_RF_plainForm_56 rfl ?_
            refine xG_istore_n (lv' := [(3, xi 0), (5, xi (I 254 v4.toNatClampNeg)), (0, xq (some 250)), (1, xi v1), (2, xi v2), (4, xi v4)]) d_RF_plainForm_57 rfl (Nat.le_of_ble_eq_true rfl) rfl ?_
            refine xG_goto (tgt := 96) d_RF_plainForm_58 (by decide) ?_
            refine xG_iinc (v := v4 + 1) (lv' := [(4, xi (v4 + 1)), (3, xi 0), (5, xi (I 254 v4.toNatClampNeg)), (0, xq (some 250)), (1, xi v1), (2, xi v2)]) d_RF_plainForm_96 rfl rfl (Nat.le_of_ble_eq_true rfl) rfl ?_
            refine xG_goto (tgt := 7) d_RF_plainForm_99 (by decide) ?_
            refine xG_pick [3, 4, 5, 1, 0] rfl ?_
            exact h
          · have h := h.2 c
            refine xG_iconst (v := 1) d_RF_plainForm_52 rfl ?_
            refine xG_goto (tgt := 57) d_RF_plainForm_53 (by decide) ?_
            refine xG_istore_n (lv' := [(3, xi 1), (5, xi (I 254 v4.toNatClampNeg)), (0, xq (some 250)), (1, xi v1), (2, xi v2), (4, xi v4)]) d_RF_plainForm_57 rfl (Nat.le_of_ble_eq_true rfl) rfl ?_
            refine xG_goto (tgt := 96) d_RF_plainForm_58 (by decide) ?_
            refine xG_iinc (v := v4 + 1) (lv' := [(4, xi (v4 + 1)), (3, xi 1), (5, xi (I 254 v4.toNatClampNeg)), (0, xq (some 250)), (1, xi v1), (2, xi v2)]) d_RF_plainForm_96 rfl rfl (Nat.le_of_ble_eq_true rfl) rfl ?_
            refine xG_goto (tgt := 7) d_RF_plainForm_99 (by decide) ?_
            refine xG_pick [3, 4, 5, 1, 0] rfl ?_
            exact h
      · have h := h.2 c
        refine xG_iconst (v := (-1)) d_RF_plainForm_39 rfl ?_
        exact xG_ireturn d_RF_plainForm_40 rfl rfl ⟨rfl, hL, _, rfl, h⟩
theorem e_RF_plainForm {l : Launch} {V : xV} {Q : Int32 → xIt → xJt → xPt → Prop} {I : xIt} {J : xJt} {P : xPt} {v1 : Int32} (h : G_RF_plainForm l V Q 0 [(0, xq (some 250)), (1, xi v1)] [] I J P) : xMet l V y_RF_plainForm 2 0 0 [xq (some 250), xi v1] xS0 I J P (xPi Q) := xMet_of (by decide) (Nat.le_of_ble_eq_true rfl) h

abbrev G_RF_isNumber (l : Launch) (V : xV) (Q : Int32 → xIt → xJt → xPt → Prop) (pc : Nat) (lv : List (Nat × xX)) (st : List xX) (I : xIt) (J : xJt) (P : xPt) : Prop := xG l V y_RF_isNumber (xR 1 0 0) (xFn V y_RF_isNumber (xR 1 0 0) (xPi Q)) pc lv st xS0 I J P (0, 0)
set_option maxRecDepth 20000 in
theorem b_RF_isNumber_0 {l : Launch} {V : xV} {Q : Int32 → xIt → xJt → xPt → Prop} {I : xIt} {J : xJt} {P : xPt} (hL : xL P)  (h : ((¬ (I 254 0) = 45 → G_RF_isNumber l V Q 26 [(0, xq (some 250)), (1, xi 0), (2, xi ((I 250 21) - 0)), (3, xi 0)] [] I J P) ∧ ((I 254 0) = 45 → G_RF_isNumber l V Q 26 [(0, xq (some 250)), (1, xi 1), (2, xi ((I 250 21) - 1)), (3, xi 1)] [] I J P))) : G_RF_isNumber l V Q 0 [(0, xq (some 250))] [] I J P := by
  refine xG_aload_n d_RF_isNumber_0 rfl rfl rfl ?_
  refine xG_getq d_RF_isNumber_1 xf_RF_19 rfl s0_250 ?_
  refine xG_iconst (v := 0) d_RF_isNumber_4 rfl ?_
  refine xG_iald d_RF_isNumber_5 (lp_250_22 hL) s0_254 (x_vp (by decide)) ?_
  refine xG_topi (x' := I 254 0) (by first | rfl | exact xu_at | simp [xu]) ?_
  refine xG_bipush (v := 45) d_RF_isNumber_6 rfl ?_
  refine xG_icmp_ne (tgt := 15) d_RF_isNumber_8 (by decide) (fun c => ?_) (fun c => ?_)
  · have h := h.1 c
    refine xG_iconst (v := 0) d_RF_isNumber_15 rfl ?_
    refine xG_istore_n (lv' := [(1, xi 0), (0, xq (some 250))]) d_RF_isNumber_16 rfl (Nat.le_of_ble_eq_true rfl) rfl ?_
    refine xG_aload_n d_RF_isNumber_17 rfl rfl rfl ?_
    refine xG_geti d_RF_isNumber_18 xf_RF_184 rfl s0_250 ?_
    refine xG_iload_n d_RF_isNumber_21 rfl rfl ?_
    refine xG_isub d_RF_isNumber_22 ?_
    refine xG_istore_n (lv' := [(2, xi ((I 250 21) - 0)), (1, xi 0), (0, xq (some 250))]) d_RF_isNumber_23 rfl (Nat.le_of_ble_eq_true rfl) rfl ?_
    refine xG_iload_n d_RF_isNumber_24 rfl rfl ?_
    refine xG_istore_n (lv' := [(3, xi 0), (2, xi ((I 250 21) - 0)), (1, xi 0), (0, xq (some 250))]) d_RF_isNumber_25 rfl (Nat.le_of_ble_eq_true rfl) rfl ?_
    refine xG_pick [3, 2, 1, 0] rfl ?_
    exact h
  · have h := h.2 c
    refine xG_iconst (v := 1) d_RF_isNumber_11 rfl ?_
    refine xG_goto (tgt := 16) d_RF_isNumber_12 (by decide) ?_
    refine xG_istore_n (lv' := [(1, xi 1), (0, xq (some 250))]) d_RF_isNumber_16 rfl (Nat.le_of_ble_eq_true rfl) rfl ?_
    refine xG_aload_n d_RF_isNumber_17 rfl rfl rfl ?_
    refine xG_geti d_RF_isNumber_18 xf_RF_184 rfl s0_250 ?_
    refine xG_iload_n d_RF_isNumber_21 rfl rfl ?_
    refine xG_isub d_RF_isNumber_22 ?_
    refine xG_istore_n (lv' := [(2, xi ((I 250 21) - 1)), (1, xi 1), (0, xq (some 250))]) d_RF_isNumber_23 rfl (Nat.le_of_ble_eq_true rfl) rfl ?_
    refine xG_iload_n d_RF_isNumber_24 rfl rfl ?_
    refine xG_istore_n (lv' := [(3, xi 1), (2, xi ((I 250 21) - 1)), (1, xi 1), (0, xq (some 250))]) d_RF_isNumber_25 rfl (Nat.le_of_ble_eq_true rfl) rfl ?_
    refine xG_pick [3, 2, 1, 0] rfl ?_
    exact h
set_option maxRecDepth 20000 in
theorem b_RF_isNumber_26 {l : Launch} {V : xV} {Q : Int32 → xIt → xJt → xPt → Prop} {I : xIt} {J : xJt} {P : xPt} (hL : xL P) {v1 : Int32} {v2 : Int32} {v3 : Int32} (h : (((I 250 21) ≤ v3 → ((v2 < 1 → Q 0 I J P) ∧ (¬ v2 < 1 → ((4 < v2 → Q 0 I J P) ∧ (¬ 4 < v2 → (vp_in v1 32 ∧ ((¬ (I 254 v1.toNatClampNeg) = 48 → Q 1 I J P) ∧ ((I 254 v1.toNatClampNeg) = 48 → ((¬ (I 250 21) = 1 → Q 0 I J P) ∧ ((I 250 21) = 1 → Q 1 I J P)))))))))) ∧ (¬ (I 250 21) ≤ v3 → (vp_in v3 32 ∧ (((I 254 v3.toNatClampNeg) < 48 → Q 0 I J P) ∧ (¬ (I 254 v3.toNatClampNeg) < 48 → (vp_in v3 32 ∧ (((I 254 v3.toNatClampNeg) ≤ 57 → G_RF_isNumber l V Q 26 [(0, xq (some 250)), (1, xi v1), (2, xi v2), (3, xi (v3 + 1))] [] I J P) ∧ (¬ (I 254 v3.toNatClampNeg) ≤ 57 → Q 0 I J P))))))))) : G_RF_isNumber l V Q 26 [(0, xq (some 250)), (1, xi v1), (2, xi v2), (3, xi v3)] [] I J P := by
  refine xG_iload_n d_RF_isNumber_26 rfl rfl ?_
  refine xG_aload_n d_RF_isNumber_27 rfl rfl rfl ?_
  refine xG_geti d_RF_isNumber_28 xf_RF_184 rfl s0_250 ?_
  refine xG_icmp_ge (tgt := 64) d_RF_isNumber_31 (by decide) (fun c => ?_) (fun c => ?_)
  · have h := h.1 c
    refine xG_iload_n d_RF_isNumber_64 rfl rfl ?_
    refine xG_iconst (v := 1) d_RF_isNumber_65 rfl ?_
    refine xG_icmp_lt (tgt := 97) d_RF_isNumber_66 (by decide) (fun c => ?_) (fun c => ?_)
    · have h := h.1 c
      refine xG_iconst (v := 0) d_RF_isNumber_97 rfl ?_
      exact xG_ireturn d_RF_isNumber_98 rfl rfl ⟨rfl, hL, _, rfl, h⟩
    · have h := h.2 c
      refine xG_iload_n d_RF_isNumber_69 rfl rfl ?_
      refine xG_iconst (v := 4) d_RF_isNumber_70 rfl ?_
      refine xG_icmp_gt (tgt := 97) d_RF_isNumber_71 (by decide) (fun c => ?_) (fun c => ?_)
      · have h := h.1 c
        refine xG_iconst (v := 0) d_RF_isNumber_97 rfl ?_
        exact xG_ireturn d_RF_isNumber_98 rfl rfl ⟨rfl, hL, _, rfl, h⟩
      · have h := h.2 c
        refine xG_aload_n d_RF_isNumber_74 rfl rfl rfl ?_
        refine xG_getq d_RF_isNumber_75 xf_RF_19 rfl s0_250 ?_
        refine xG_iload_n d_RF_isNumber_78 rfl rfl ?_
        refine xG_iald d_RF_isNumber_79 (lp_250_22 hL) s0_254 h.1 ?_
        have h := h.2
        refine xG_bipush (v := 48) d_RF_isNumber_80 rfl ?_
        refine xG_icmp_ne (tgt := 93) d_RF_isNumber_82 (by decide) (fun c => ?_) (fun c => ?_)
        · have h := h.1 c
          refine xG_iconst (v := 1) d_RF_isNumber_93 rfl ?_
          refine xG_goto (tgt := 98) d_RF_isNumber_94 (by decide) ?_
          exact xG_ireturn d_RF_isNumber_98 rfl rfl ⟨rfl, hL, _, rfl, h⟩
        · have h := h.2 c
          refine xG_aload_n d_RF_isNumber_85 rfl rfl rfl ?_
          refine xG_geti d_RF_isNumber_86 xf_RF_184 rfl s0_250 ?_
          refine xG_iconst (v := 1) d_RF_isNumber_89 rfl ?_
          refine xG_icmp_ne (tgt := 97) d_RF_isNumber_90 (by decide) (fun c => ?_) (fun c => ?_)
          · have h := h.1 c
            refine xG_iconst (v := 0) d_RF_isNumber_97 rfl ?_
            exact xG_ireturn d_RF_isNumber_98 rfl rfl ⟨rfl, hL, _, rfl, h⟩
          · have h := h.2 c
            refine xG_iconst (v := 1) d_RF_isNumber_93 rfl ?_
            refine xG_goto (tgt := 98) d_RF_isNumber_94 (by decide) ?_
            exact xG_ireturn d_RF_isNumber_98 rfl rfl ⟨rfl, hL, _, rfl, h⟩
  · have h := h.2 c
    refine xG_aload_n d_RF_isNumber_34 rfl rfl rfl ?_
    refine xG_getq d_RF_isNumber_35 xf_RF_19 rfl s0_250 ?_
    refine xG_iload_n d_RF_isNumber_38 rfl rfl ?_
    refine xG_iald d_RF_isNumber_39 (lp_250_22 hL) s0_254 h.1 ?_
    have h := h.2
    refine xG_bipush (v := 48) d_RF_isNumber_40 rfl ?_
    refine xG_icmp_lt (tgt := 56) d_RF_isNumber_42 (by decide) (fun c => ?_) (fun c => ?_)
    · have h := h.1 c
      refine xG_iconst (v := 0) d_RF_isNumber_56 rfl ?_
      exact xG_ireturn d_RF_isNumber_57 rfl rfl ⟨rfl, hL, _, rfl, h⟩
    · have h := h.2 c
      refine xG_aload_n d_RF_isNumber_45 rfl rfl rfl ?_
      refine xG_getq d_RF_isNumber_46 xf_RF_19 rfl s0_250 ?_
      refine xG_iload_n d_RF_isNumber_49 rfl rfl ?_
      refine xG_iald d_RF_isNumber_50 (lp_250_22 hL) s0_254 h.1 ?_
      have h := h.2
      refine xG_bipush (v := 57) d_RF_isNumber_51 rfl ?_
      refine xG_icmp_le (tgt := 58) d_RF_isNumber_53 (by decide) (fun c => ?_) (fun c => ?_)
      · have h := h.1 c
        refine xG_iinc (v := v3 + 1) (lv' := [(3, xi (v3 + 1)), (0, xq (some 250)), (1, xi v1), (2, xi v2)]) d_RF_isNumber_58 rfl rfl (Nat.le_of_ble_eq_true rfl) rfl ?_
        refine xG_goto (tgt := 26) d_RF_isNumber_61 (by decide) ?_
        refine xG_pick [1, 2, 3, 0] rfl ?_
        exact h
      · have h := h.2 c
        refine xG_iconst (v := 0) d_RF_isNumber_56 rfl ?_
        exact xG_ireturn d_RF_isNumber_57 rfl rfl ⟨rfl, hL, _, rfl, h⟩
theorem e_RF_isNumber {l : Launch} {V : xV} {Q : Int32 → xIt → xJt → xPt → Prop} {I : xIt} {J : xJt} {P : xPt}  (h : G_RF_isNumber l V Q 0 [(0, xq (some 250))] [] I J P) : xMet l V y_RF_isNumber 1 0 0 [xq (some 250)] xS0 I J P (xPi Q) := xMet_of (by decide) (Nat.le_of_ble_eq_true rfl) h

abbrev G_RF_equalForms (l : Launch) (V : xV) (Q : Int32 → xIt → xJt → xPt → Prop) (pc : Nat) (lv : List (Nat × xX)) (st : List xX) (I : xIt) (J : xJt) (P : xPt) : Prop := xG l V y_RF_equalForms (xR 1 0 0) (xFn V y_RF_equalForms (xR 1 0 0) (xPi Q)) pc lv st xS0 I J P (0, 0)
set_option maxRecDepth 20000 in
theorem b_RF_equalForms_0 {l : Launch} {V : xV} {Q : Int32 → xIt → xJt → xPt → Prop} {I : xIt} {J : xJt} {P : xPt} (hL : xL P) {v1 : Int32} {v2 : Int32} {v3 : Int32} {v4 : Int32} (h : ((¬ v2 = v4 → G_RF_equalForms l V Q 16 [(0, xq (some 250)), (1, xi v1), (2, xi v2), (3, xi v3), (4, xi v4), (5, xi 0), (6, xi 0)] [] I J P) ∧ (v2 = v4 → G_RF_equalForms l V Q 16 [(0, xq (some 250)), (1, xi v1), (2, xi v2), (3, xi v3), (4, xi v4), (5, xi 1), (6, xi 0)] [] I J P))) : G_RF_equalForms l V Q 0 [(0, xq (some 250)), (1, xi v1), (2, xi v2), (3, xi v3), (4, xi v4)] [] I J P := by
  refine xG_iload_n d_RF_equalForms_0 rfl rfl ?_
  refine xG_iload d_RF_equalForms_1 rfl ?_
  refine xG_icmp_ne (tgt := 10) d_RF_equalForms_3 (by decide) (fun c => ?_) (fun c => ?_)
  · have h := h.1 c
    refine xG_iconst (v := 0) d_RF_equalForms_10 rfl ?_
    refine xG_istore (lv' := [(5, xi 0), (0, xq (some 250)), (1, xi v1), (2, xi v2), (3, xi v3), (4, xi v4)]) d_RF_equalForms_11 (Nat.le_of_ble_eq_true rfl) rfl ?_
    refine xG_iconst (v := 0) d_RF_equalForms_13 rfl ?_
    refine xG_istore (lv' := [(6, xi 0), (5, xi 0), (0, xq (some 250)), (1, xi v1), (2, xi v2), (3, xi v3), (4, xi v4)]) d_RF_equalForms_14 (Nat.le_of_ble_eq_true rfl) rfl ?_
    refine xG_pick [2, 3, 4, 5, 6, 1, 0] rfl ?_
    exact h
  · have h := h.2 c
    refine xG_iconst (v := 1) d_RF_equalForms_6 rfl ?_
    refine xG_goto (tgt := 11) d_RF_equalForms_7 (by decide) ?_
    refine xG_istore (lv' := [(5, xi 1), (0, xq (some 250)), (1, xi v1), (2, xi v2), (3, xi v3), (4, xi v4)]) d_RF_equalForms_11 (Nat.le_of_ble_eq_true rfl) rfl ?_
    refine xG_iconst (v := 0) d_RF_equalForms_13 rfl ?_
    refine xG_istore (lv' := [(6, xi 0), (5, xi 1), (0, xq (some 250)), (1, xi v1), (2, xi v2), (3, xi v3), (4, xi v4)]) d_RF_equalForms_14 (Nat.le_of_ble_eq_true rfl) rfl ?_
    refine xG_pick [2, 3, 4, 5, 6, 1, 0] rfl ?_
    exact h
set_option maxRecDepth 20000 in
theorem b_RF_equalForms_16 {l : Launch} {V : xV} {Q : Int32 → xIt → xJt → xPt → Prop} {I : xIt} {J : xJt} {P : xPt} (hL : xL P) {v1 : Int32} {v2 : Int32} {v3 : Int32} {v4 : Int32} {v5 : Int32} {v6 : Int32} (h : ((v2 ≤ v6 → ((v5 = 0 ∨ v5 = 1) ∧ Q v5 I J P)) ∧ (¬ v2 ≤ v6 → ((v5 = 0 → ((v5 = 0 ∨ v5 = 1) ∧ Q v5 I J P)) ∧ (¬ v5 = 0 → (vp_in ((8 * v1) + v6) 40 ∧ (vp_in ((8 * v3) + v6) 40 ∧ ((¬ (I 255 (((8 * v1) + v6).toNatClampNeg)) = (I 255 (((8 * v3) + v6).toNatClampNeg)) → G_RF_equalForms l V Q 16 [(0, xq (some 250)), (1, xi v1), (2, xi v2), (3, xi v3), (4, xi v4), (5, xi 0), (6, xi (v6 + 1))] [] I J P) ∧ ((I 255 (((8 * v1) + v6).toNatClampNeg)) = (I 255 (((8 * v3) + v6).toNatClampNeg)) → G_RF_equalForms l V Q 16 [(0, xq (some 250)), (1, xi v1), (2, xi v2), (3, xi v3), (4, xi v4), (5, xi 1), (6, xi (v6 + 1))] [] I J P))))))))) : G_RF_equalForms l V Q 16 [(0, xq (some 250)), (1, xi v1), (2, xi v2), (3, xi v3), (4, xi v4), (5, xi v5), (6, xi v6)] [] I J P := by
  refine xG_iload d_RF_equalForms_16 rfl ?_
  refine xG_iload_n d_RF_equalForms_18 rfl rfl ?_
  refine xG_icmp_ge (tgt := 67) d_RF_equalForms_19 (by decide) (fun c => ?_) (fun c => ?_)
  · have h := h.1 c
    refine xG_iload d_RF_equalForms_67 rfl ?_
    exact xG_ireturn d_RF_equalForms_69 rfl (x_nb h.1) ⟨rfl, hL, _, rfl, h.2⟩
  · have h := h.2 c
    refine xG_iload d_RF_equalForms_22 rfl ?_
    refine xG_if_eq (tgt := 67) d_RF_equalForms_24 (by decide) (fun c => ?_) (fun c => ?_)
    · have h := h.1 c
      refine xG_iload d_RF_equalForms_67 rfl ?_
      exact xG_ireturn d_RF_equalForms_69 rfl (x_nb h.1) ⟨rfl, hL, _, rfl, h.2⟩
    · have h := h.2 c
      refine xG_aload_n d_RF_equalForms_27 rfl rfl rfl ?_
      refine xG_getq d_RF_equalForms_28 xf_RF_22 rfl s0_250 ?_
      refine xG_bipush (v := 8) d_RF_equalForms_31 rfl ?_
      refine xG_iload_n d_RF_equalForms_33 rfl rfl ?_
      refine xG_imul d_RF_equalForms_34 ?_
      refine xG_iload d_RF_equalForms_35 rfl ?_
      refine xG_iadd d_RF_equalForms_37 ?_
      refine xG_iald d_RF_equalForms_38 (lp_250_23 hL) s0_255 h.1 ?_
      have h := h.2
      refine xG_topi (x' := I 255 (((8 * v1) + v6).toNatClampNeg)) (by first | rfl | exact xu_at | simp [xu]) ?_
      refine xG_aload_n d_RF_equalForms_39 rfl rfl rfl ?_
      refine xG_getq d_RF_equalForms_40 xf_RF_22 rfl s0_250 ?_
      refine xG_bipush (v := 8) d_RF_equalForms_43 rfl ?_
      refine xG_iload_n d_RF_equalForms_45 rfl rfl ?_
      refine xG_imul d_RF_equalForms_46 ?_
      refine xG_iload d_RF_equalForms_47 rfl ?_
      refine xG_iadd d_RF_equalForms_49 ?_
      refine xG_iald d_RF_equalForms_50 (lp_250_23 hL) s0_255 h.1 ?_
      have h := h.2
      refine xG_topi (x' := I 255 (((8 * v3) + v6).toNatClampNeg)) (by first | rfl | exact xu_at | simp [xu]) ?_
      refine xG_icmp_ne (tgt := 58) d_RF_equalForms_51 (by decide) (fun c => ?_) (fun c => ?_)
      · have h := h.1 c
        refine xG_iconst (v := 0) d_RF_equalForms_58 rfl ?_
        refine xG_istore (lv' := [(5, xi 0), (0, xq (some 250)), (1, xi v1), (2, xi v2), (3, xi v3), (4, xi v4), (6, xi v6)]) d_RF_equalForms_59 (Nat.le_of_ble_eq_true rfl) rfl ?_
        refine xG_iinc (v := v6 + 1) (lv' := [(6, xi (v6 + 1)), (5, xi 0), (0, xq (some 250)), (1, xi v1), (2, xi v2), (3, xi v3), (4, xi v4)]) d_RF_equalForms_61 rfl rfl (Nat.le_of_ble_eq_true rfl) rfl ?_
        refine xG_goto (tgt := 16) d_RF_equalForms_64 (by decide) ?_
        refine xG_pick [2, 3, 4, 5, 6, 1, 0] rfl ?_
        exact h
      · have h := h.2 c
        refine xG_iconst (v := 1) d_RF_equalForms_54 rfl ?_
        refine xG_goto (tgt := 59) d_RF_equalForms_55 (by decide) ?_
        refine xG_istore (lv' := [(5, xi 1), (0, xq (some 250)), (1, xi v1), (2, xi v2), (3, xi v3), (4, xi v4), (6, xi v6)]) d_RF_equalForms_59 (Nat.le_of_ble_eq_true rfl) rfl ?_
        refine xG_iinc (v := v6 + 1) (lv' := [(6, xi (v6 + 1)), (5, xi 1), (0, xq (some 250)), (1, xi v1), (2, xi v2), (3, xi v3), (4, xi v4)]) d_RF_equalForms_61 rfl rfl (Nat.le_of_ble_eq_true rfl) rfl ?_
        refine xG_goto (tgt := 16) d_RF_equalForms_64 (by decide) ?_
        refine xG_pick [2, 3, 4, 5, 6, 1, 0] rfl ?_
        exact h
theorem e_RF_equalForms {l : Launch} {V : xV} {Q : Int32 → xIt → xJt → xPt → Prop} {I : xIt} {J : xJt} {P : xPt} {v1 : Int32} {v2 : Int32} {v3 : Int32} {v4 : Int32} (h : G_RF_equalForms l V Q 0 [(0, xq (some 250)), (1, xi v1), (2, xi v2), (3, xi v3), (4, xi v4)] [] I J P) : xMet l V y_RF_equalForms 1 0 0 [xq (some 250), xi v1, xi v2, xi v3, xi v4] xS0 I J P (xPi Q) := xMet_of (by decide) (Nat.le_of_ble_eq_true rfl) h

abbrev G_RF_placeOf (l : Launch) (V : xV) (Q : Int32 → xIt → xJt → xPt → Prop) (pc : Nat) (lv : List (Nat × xX)) (st : List xX) (I : xIt) (J : xJt) (P : xPt) : Prop := xG l V y_RF_placeOf (xR 1 0 0) (xFn V y_RF_placeOf (xR 1 0 0) (xPi Q)) pc lv st xS0 I J P (0, 0)
set_option maxRecDepth 20000 in
theorem b_RF_placeOf_0 {l : Launch} {V : xV} {Q : Int32 → xIt → xJt → xPt → Prop} {I : xIt} {J : xJt} {P : xPt} (hL : xL P) {v1 : Int32} {v2 : Int32} {v3 : Int32} {v4 : Int32} (h : G_RF_placeOf l V Q 3 [(0, xq (some 250)), (1, xi v1), (2, xi v2), (3, xi v3), (4, xi v4), (5, xi 0)] [] I J P) : G_RF_placeOf l V Q 0 [(0, xq (some 250)), (1, xi v1), (2, xi v2), (3, xi v3), (4, xi v4)] [] I J P := by
  refine xG_iconst (v := 0) d_RF_placeOf_0 rfl ?_
  refine xG_istore (lv' := [(5, xi 0), (0, xq (some 250)), (1, xi v1), (2, xi v2), (3, xi v3), (4, xi v4)]) d_RF_placeOf_1 (Nat.le_of_ble_eq_true rfl) rfl ?_
  refine xG_pick [1, 2, 3, 4, 5, 0] rfl ?_
  exact h
set_option maxRecDepth 20000 in
theorem b_RF_placeOf_3 {l : Launch} {V : xV} {Q : Int32 → xIt → xJt → xPt → Prop} {I : xIt} {J : xJt} {P : xPt} (hL : xL P) {v1 : Int32} {v2 : Int32} {v3 : Int32} {v4 : Int32} {v5 : Int32} (h : (vp_in ((5 * v1) + v2) 65 ∧ (((I 258 (((5 * v1) + v2).toNatClampNeg)) ≤ v5 → Q (-1) I J P) ∧ (¬ (I 258 (((5 * v1) + v2).toNatClampNeg)) ≤ v5 → (vp_in (((15 * v1) + (3 * v2)) + v5) 195 ∧ ((¬ (I 261 ((((15 * v1) + (3 * v2)) + v5).toNatClampNeg)) = v4 → G_RF_placeOf l V Q 53 [(0, xq (some 250)), (1, xi v1), (2, xi v2), (3, xi v3), (4, xi v4), (5, xi v5), (6, xi (((15 * v1) + (3 * v2)) + v5)), (7, xi 0), (8, xi 0)] [] I J P) ∧ ((I 261 ((((15 * v1) + (3 * v2)) + v5).toNatClampNeg)) = v4 → G_RF_placeOf l V Q 53 [(0, xq (some 250)), (1, xi v1), (2, xi v2), (3, xi v3), (4, xi v4), (5, xi v5), (6, xi (((15 * v1) + (3 * v2)) + v5)), (7, xi 1), (8, xi 0)] [] I J P))))))) : G_RF_placeOf l V Q 3 [(0, xq (some 250)), (1, xi v1), (2, xi v2), (3, xi v3), (4, xi v4), (5, xi v5)] [] I J P := by
  refine xG_iload d_RF_placeOf_3 rfl ?_
  refine xG_aload_n d_RF_placeOf_5 rfl rfl rfl ?_
  refine xG_getq d_RF_placeOf_6 xf_RF_31 rfl s0_250 ?_
  refine xG_iconst (v := 5) d_RF_placeOf_9 rfl ?_
  refine xG_iload_n d_RF_placeOf_10 rfl rfl ?_
  refine xG_imul d_RF_placeOf_11 ?_
  refine xG_iload_n d_RF_placeOf_12 rfl rfl ?_
  refine xG_iadd d_RF_placeOf_13 ?_
  refine xG_iald d_RF_placeOf_14 (lp_250_28 hL) s0_258 h.1 ?_
  have h := h.2
  refine xG_topi (x' := I 258 (((5 * v1) + v2).toNatClampNeg)) (by first | rfl | exact xu_at | simp [xu]) ?_
  refine xG_icmp_ge (tgt := 120) d_RF_placeOf_15 (by decide) (fun c => ?_) (fun c => ?_)
  · have h := h.1 c
    refine xG_iconst (v := (-1)) d_RF_placeOf_120 rfl ?_
    exact xG_ireturn d_RF_placeOf_121 rfl rfl ⟨rfl, hL, _, rfl, h⟩
  · have h := h.2 c
    refine xG_bipush (v := 15) d_RF_placeOf_18 rfl ?_
    refine xG_iload_n d_RF_placeOf_20 rfl rfl ?_
    refine xG_imul d_RF_placeOf_21 ?_
    refine xG_iconst (v := 3) d_RF_placeOf_22 rfl ?_
    refine xG_iload_n d_RF_placeOf_23 rfl rfl ?_
    refine xG_imul d_RF_placeOf_24 ?_
    refine xG_iadd d_RF_placeOf_25 ?_
    refine xG_iload d_RF_placeOf_26 rfl ?_
    refine xG_iadd d_RF_placeOf_28 ?_
    refine xG_istore (lv' := [(6, xi (((15 * v1) + (3 * v2)) + v5)), (0, xq (some 250)), (1, xi v1), (2, xi v2), (3, xi v3), (4, xi v4), (5, xi v5)]) d_RF_placeOf_29 (Nat.le_of_ble_eq_true rfl) rfl ?_
    refine xG_aload_n d_RF_placeOf_31 rfl rfl rfl ?_
    refine xG_getq d_RF_placeOf_32 xf_RF_40 rfl s0_250 ?_
    refine xG_iload d_RF_placeOf_35 rfl ?_
    refine xG_iald d_RF_placeOf_37 (lp_250_31 hL) s0_261 h.1 ?_
    have h := h.2
    refine xG_topi (x' := I 261 ((((15 * v1) + (3 * v2)) + v5).toNatClampNeg)) (by first | rfl | exact xu_at | simp [xu]) ?_
    refine xG_iload d_RF_placeOf_38 rfl ?_
    refine xG_icmp_ne (tgt := 47) d_RF_placeOf_40 (by decide) (fun c => ?_) (fun c => ?_)
    · have h := h.1 c
      refine xG_iconst (v := 0) d_RF_placeOf_47 rfl ?_
      refine xG_istore (lv' := [(7, xi 0), (6, xi (((15 * v1) + (3 * v2)) + v5)), (0, xq (some 250)), (1, xi v1), (2, xi v2), (3, xi v3), (4, xi v4), (5, xi v5)]) d_RF_placeOf_48 (Nat.le_of_ble_eq_true rfl) rfl ?_
      refine xG_iconst (v := 0) d_RF_placeOf_50 rfl ?_
      refine xG_istore (lv' := [(8, xi 0), (7, xi 0), (6, xi (((15 * v1) + (3 * v2)) + v5)), (0, xq (some 250)), (1, xi v1), (2, xi v2), (3, xi v3), (4, xi v4), (5, xi v5)]) d_RF_placeOf_51 (Nat.le_of_ble_eq_true rfl) rfl ?_
      refine xG_pick [3, 4, 5, 6, 7, 8, 2, 1, 0] rfl ?_
      exact h
    · have h := h.2 c
      refine xG_iconst (v := 1) d_RF_placeOf_43 rfl ?_
      refine xG_goto (tgt := 48) d_RF_placeOf_44 (by decide) ?_
      refine xG_istore (lv' := [(7, xi 1), (6, xi (((15 * v1) + (3 * v2)) + v5)), (0, xq (some 250)), (1, xi v1), (2, xi v2), (3, xi v3), (4, xi v4), (5, xi v5)]) d_RF_placeOf_48 (Nat.le_of_ble_eq_true rfl) rfl ?_
      refine xG_iconst (v := 0) d_RF_placeOf_50 rfl ?_
      refine xG_istore (lv' := [(8, xi 0), (7, xi 1), (6, xi (((15 * v1) + (3 * v2)) + v5)), (0, xq (some 250)), (1, xi v1), (2, xi v2), (3, xi v3), (4, xi v4), (5, xi v5)]) d_RF_placeOf_51 (Nat.le_of_ble_eq_true rfl) rfl ?_
      refine xG_pick [3, 4, 5, 6, 7, 8, 2, 1, 0] rfl ?_
      exact h
set_option maxRecDepth 20000 in
theorem b_RF_placeOf_53 {l : Launch} {V : xV} {Q : Int32 → xIt → xJt → xPt → Prop} {I : xIt} {J : xJt} {P : xPt} (hL : xL P) {v1 : Int32} {v2 : Int32} {v3 : Int32} {v4 : Int32} {v5 : Int32} {v6 : Int32} {v7 : Int32} {v8 : Int32} (h : ((v4 ≤ v8 → ((v7 = 0 → G_RF_placeOf l V Q 3 [(0, xq (some 250)), (1, xi v1), (2, xi v2), (3, xi v3), (4, xi v4), (5, xi (v5 + 1))] [] I J P) ∧ (¬ v7 = 0 → Q v5 I J P))) ∧ (¬ v4 ≤ v8 → ((v7 = 0 → ((v7 = 0 → G_RF_placeOf l V Q 3 [(0, xq (some 250)), (1, xi v1), (2, xi v2), (3, xi v3), (4, xi v4), (5, xi (v5 + 1))] [] I J P) ∧ (¬ v7 = 0 → Q v5 I J P))) ∧ (¬ v7 = 0 → (vp_in ((6 * v6) + v8) 1170 ∧ (vp_in ((8 * v3) + v8) 40 ∧ ((¬ (I 262 (((6 * v6) + v8).toNatClampNeg)) = (I 255 (((8 * v3) + v8).toNatClampNeg)) → G_RF_placeOf l V Q 53 [(0, xq (some 250)), (1, xi v1), (2, xi v2), (3, xi v3), (4, xi v4), (5, xi v5), (6, xi v6), (7, xi 0), (8, xi (v8 + 1))] [] I J P) ∧ ((I 262 (((6 * v6) + v8).toNatClampNeg)) = (I 255 (((8 * v3) + v8).toNatClampNeg)) → G_RF_placeOf l V Q 53 [(0, xq (some 250)), (1, xi v1), (2, xi v2), (3, xi v3), (4, xi v4), (5, xi v5), (6, xi v6), (7, xi 1), (8, xi (v8 + 1))] [] I J P))))))))) : G_RF_placeOf l V Q 53 [(0, xq (some 250)), (1, xi v1), (2, xi v2), (3, xi v3), (4, xi v4), (5, xi v5), (6, xi v6), (7, xi v7), (8, xi v8)] [] I J P := by
  refine xG_iload d_RF_placeOf_53 rfl ?_
  refine xG_iload d_RF_placeOf_55 rfl ?_
  refine xG_icmp_ge (tgt := 106) d_RF_placeOf_57 (by decide) (fun c => ?_) (fun c => ?_)
  · have h := h.1 c
    refine xG_iload d_RF_placeOf_106 rfl ?_
    refine xG_if_eq (tgt := 114) d_RF_placeOf_108 (by decide) (fun c => ?_) (fun c => ?_)
    · have h := h.1 c
      refine xG_iinc (v := v5 + 1) (lv' := [(5, xi (v5 + 1)), (0, xq (some 250)), (1, xi v1), (2, xi v2), (3, xi v3), (4, xi v4), (6, xi v6), (7, xi v7), (8, xi v8)]) d_RF_placeOf_114 rfl rfl (Nat.le_of_ble_eq_true rfl) rfl ?_
      refine xG_goto (tgt := 3) d_RF_placeOf_117 (by decide) ?_
      refine xG_pick [1, 2, 3, 4, 5, 0] rfl ?_
      exact h
    · have h := h.2 c
      refine xG_iload d_RF_placeOf_111 rfl ?_
      exact xG_ireturn d_RF_placeOf_113 rfl rfl ⟨rfl, hL, _, rfl, h⟩
  · have h := h.2 c
    refine xG_iload d_RF_placeOf_60 rfl ?_
    refine xG_if_eq (tgt := 106) d_RF_placeOf_62 (by decide) (fun c => ?_) (fun c => ?_)
    · have h := h.1 c
      refine xG_iload d_RF_placeOf_106 rfl ?_
      refine xG_if_eq (tgt := 114) d_RF_placeOf_108 (by decide) (fun c => ?_) (fun c => ?_)
      · have h := h.1 c
        refine xG_iinc (v := v5 + 1) (lv' := [(5, xi (v5 + 1)), (0, xq (some 250)), (1, xi v1), (2, xi v2), (3, xi v3), (4, xi v4), (6, xi v6), (7, xi v7), (8, xi v8)]) d_RF_placeOf_114 rfl rfl (Nat.le_of_ble_eq_true rfl) rfl ?_
        refine xG_goto (tgt := 3) d_RF_placeOf_117 (by decide) ?_
        refine xG_pick [1, 2, 3, 4, 5, 0] rfl ?_
        exact h
      · have h := h.2 c
        refine xG_iload d_RF_placeOf_111 rfl ?_
        exact xG_ireturn d_RF_placeOf_113 rfl rfl ⟨rfl, hL, _, rfl, h⟩
    · have h := h.2 c
      refine xG_aload_n d_RF_placeOf_65 rfl rfl rfl ?_
      refine xG_getq d_RF_placeOf_66 xf_RF_43 rfl s0_250 ?_
      refine xG_bipush (v := 6) d_RF_placeOf_69 rfl ?_
      refine xG_iload d_RF_placeOf_71 rfl ?_
      refine xG_imul d_RF_placeOf_73 ?_
      refine xG_iload d_RF_placeOf_74 rfl ?_
      refine xG_iadd d_RF_placeOf_76 ?_
      refine xG_iald d_RF_placeOf_77 (lp_250_32 hL) s0_262 h.1 ?_
      have h := h.2
      refine xG_topi (x' := I 262 (((6 * v6) + v8).toNatClampNeg)) (by first | rfl | exact xu_at | simp [xu]) ?_
      refine xG_aload_n d_RF_placeOf_78 rfl rfl rfl ?_
      refine xG_getq d_RF_placeOf_79 xf_RF_22 rfl s0_250 ?_
      refine xG_bipush (v := 8) d_RF_placeOf_82 rfl ?_
      refine xG_iload_n d_RF_placeOf_84 rfl rfl ?_
      refine xG_imul d_RF_placeOf_85 ?_
      refine xG_iload d_RF_placeOf_86 rfl ?_
      refine xG_iadd d_RF_placeOf_88 ?_
      refine xG_iald d_RF_placeOf_89 (lp_250_23 hL) s0_255 h.1 ?_
      have h := h.2
      refine xG_topi (x' := I 255 (((8 * v3) + v8).toNatClampNeg)) (by first | rfl | exact xu_at | simp [xu]) ?_
      refine xG_icmp_ne (tgt := 97) d_RF_placeOf_90 (by decide) (fun c => ?_) (fun c => ?_)
      · have h := h.1 c
        refine xG_iconst (v := 0) d_RF_placeOf_97 rfl ?_
        refine xG_istore (lv' := [(7, xi 0), (0, xq (some 250)), (1, xi v1), (2, xi v2), (3, xi v3), (4, xi v4), (5, xi v5), (6, xi v6), (8, xi v8)]) d_RF_placeOf_98 (Nat.le_of_ble_eq_true rfl) rfl ?_
        refine xG_iinc (v := v8 + 1) (lv' := [(8, xi (v8 + 1)), (7, xi 0), (0, xq (some 250)), (1, xi v1), (2, xi v2), (3, xi v3), (4, xi v4), (5, xi v5), (6, xi v6)]) d_RF_placeOf_100 rfl rfl (Nat.le_of_ble_eq_true rfl) rfl ?_
        refine xG_goto (tgt := 53) d_RF_placeOf_103 (by decide) ?_
        refine xG_pick [2, 3, 4, 5, 6, 7, 8, 1, 0] rfl ?_
        exact h
      · have h := h.2 c
        refine xG_iconst (v := 1) d_RF_placeOf_93 rfl ?_
        refine xG_goto (tgt := 98) d_RF_placeOf_94 (by decide) ?_
        refine xG_istore (lv' := [(7, xi 1), (0, xq (some 250)), (1, xi v1), (2, xi v2), (3, xi v3), (4, xi v4), (5, xi v5), (6, xi v6), (8, xi v8)]) d_RF_placeOf_98 (Nat.le_of_ble_eq_true rfl) rfl ?_
        refine xG_iinc (v := v8 + 1) (lv' := [(8, xi (v8 + 1)), (7, xi 1), (0, xq (some 250)), (1, xi v1), (2, xi v2), (3, xi v3), (4, xi v4), (5, xi v5), (6, xi v6)]) d_RF_placeOf_100 rfl rfl (Nat.le_of_ble_eq_true rfl) rfl ?_
        refine xG_goto (tgt := 53) d_RF_placeOf_103 (by decide) ?_
        refine xG_pick [2, 3, 4, 5, 6, 7, 8, 1, 0] rfl ?_
        exact h
theorem e_RF_placeOf {l : Launch} {V : xV} {Q : Int32 → xIt → xJt → xPt → Prop} {I : xIt} {J : xJt} {P : xPt} {v1 : Int32} {v2 : Int32} {v3 : Int32} {v4 : Int32} (h : G_RF_placeOf l V Q 0 [(0, xq (some 250)), (1, xi v1), (2, xi v2), (3, xi v3), (4, xi v4)] [] I J P) : xMet l V y_RF_placeOf 1 0 0 [xq (some 250), xi v1, xi v2, xi v3, xi v4] xS0 I J P (xPi Q) := xMet_of (by decide) (Nat.le_of_ble_eq_true rfl) h

abbrev G_RF_most (l : Launch) (V : xV) (Q : Int32 → xIt → xJt → xPt → Prop) (pc : Nat) (lv : List (Nat × xX)) (st : List xX) (I : xIt) (J : xJt) (P : xPt) : Prop := xG l V y_RF_most (xR 1 0 0) (xFn V y_RF_most (xR 1 0 0) (xPi Q)) pc lv st xS0 I J P (0, 0)
set_option maxRecDepth 20000 in
theorem b_RF_most_0 {l : Launch} {V : xV} {Q : Int32 → xIt → xJt → xPt → Prop} {I : xIt} {J : xJt} {P : xPt} (hL : xL P) {v0 : Int32} (h : ((v0 = 0 → Q 3 I J P) ∧ (¬ v0 = 0 → ((¬ v0 = 2 → Q 1 I J P) ∧ (v0 = 2 → Q 3 I J P))))) : G_RF_most l V Q 0 [(0, xi v0)] [] I J P := by
  refine xG_iload_n d_RF_most_0 rfl rfl ?_
  refine xG_if_eq (tgt := 9) d_RF_most_1 (by decide) (fun c => ?_) (fun c => ?_)
  · have h := h.1 c
    refine xG_iconst (v := 3) d_RF_most_9 rfl ?_
    refine xG_goto (tgt := 14) d_RF_most_10 (by decide) ?_
    exact xG_ireturn d_RF_most_14 rfl rfl ⟨rfl, hL, _, rfl, h⟩
  · have h := h.2 c
    refine xG_iload_n d_RF_most_4 rfl rfl ?_
    refine xG_iconst (v := 2) d_RF_most_5 rfl ?_
    refine xG_icmp_ne (tgt := 13) d_RF_most_6 (by decide) (fun c => ?_) (fun c => ?_)
    · have h := h.1 c
      refine xG_iconst (v := 1) d_RF_most_13 rfl ?_
      exact xG_ireturn d_RF_most_14 rfl rfl ⟨rfl, hL, _, rfl, h⟩
    · have h := h.2 c
      refine xG_iconst (v := 3) d_RF_most_9 rfl ?_
      refine xG_goto (tgt := 14) d_RF_most_10 (by decide) ?_
      exact xG_ireturn d_RF_most_14 rfl rfl ⟨rfl, hL, _, rfl, h⟩
theorem e_RF_most {l : Launch} {V : xV} {Q : Int32 → xIt → xJt → xPt → Prop} {I : xIt} {J : xJt} {P : xPt} {v0 : Int32} (h : G_RF_most l V Q 0 [(0, xi v0)] [] I J P) : xMet l V y_RF_most 1 0 0 [xi v0] xS0 I J P (xPi Q) := xMet_of (by decide) (Nat.le_of_ble_eq_true rfl) h

abbrev G_RF_append (l : Launch) (V : xV) (Q : xIt → xJt → xPt → Prop) (pc : Nat) (lv : List (Nat × xX)) (st : List xX) (I : xIt) (J : xJt) (P : xPt) : Prop := xG l V y_RF_append (xR 1 0 0) (xFn V y_RF_append (xR 1 0 0) (xPv Q)) pc lv st xS0 I J P (0, 0)
set_option maxRecDepth 20000 in
theorem b_RF_append_0 {l : Launch} {V : xV} {Q : xIt → xJt → xPt → Prop} {I : xIt} {J : xJt} {P : xPt} (hL : xL P) {v1 : Int32} {v2 : Int32} {v3 : Int32} {v4 : Int32} (h : (vp_in ((5 * v1) + v2) 65 ∧ (vp_in (((15 * v1) + (3 * v2)) + (I 258 (((5 * v1) + v2).toNatClampNeg))) 195 ∧ (vp_in (((15 * v1) + (3 * v2)) + (I 258 (((5 * v1) + v2).toNatClampNeg))) 195 ∧ G_RF_append l V Q 44 [(0, xq (some 250)), (1, xi v1), (2, xi v2), (3, xi v3), (4, xi v4), (5, xi (((15 * v1) + (3 * v2)) + (I 258 (((5 * v1) + v2).toNatClampNeg)))), (6, xi 0)] [] (xu (xu I 259 ((((15 * v1) + (3 * v2)) + (I 258 (((5 * v1) + v2).toNatClampNeg))).toNatClampNeg) (I 250 21)) 261 ((((15 * v1) + (3 * v2)) + (I 258 (((5 * v1) + v2).toNatClampNeg))).toNatClampNeg) v4) J P)))) : G_RF_append l V Q 0 [(0, xq (some 250)), (1, xi v1), (2, xi v2), (3, xi v3), (4, xi v4)] [] I J P := by
  refine xG_bipush (v := 15) d_RF_append_0 rfl ?_
  refine xG_iload_n d_RF_append_2 rfl rfl ?_
  refine xG_imul d_RF_append_3 ?_
  refine xG_iconst (v := 3) d_RF_append_4 rfl ?_
  refine xG_iload_n d_RF_append_5 rfl rfl ?_
  refine xG_imul d_RF_append_6 ?_
  refine xG_iadd d_RF_append_7 ?_
  refine xG_aload_n d_RF_append_8 rfl rfl rfl ?_
  refine xG_getq d_RF_append_9 xf_RF_31 rfl s0_250 ?_
  refine xG_iconst (v := 5) d_RF_append_12 rfl ?_
  refine xG_iload_n d_RF_append_13 rfl rfl ?_
  refine xG_imul d_RF_append_14 ?_
  refine xG_iload_n d_RF_append_15 rfl rfl ?_
  refine xG_iadd d_RF_append_16 ?_
  refine xG_iald d_RF_append_17 (lp_250_28 hL) s0_258 h.1 ?_
  have h := h.2
  refine xG_topi (x' := I 258 (((5 * v1) + v2).toNatClampNeg)) (by first | rfl | exact xu_at | simp [xu]) ?_
  refine xG_iadd d_RF_append_18 ?_
  refine xG_istore (lv' := [(5, xi (((15 * v1) + (3 * v2)) + (I 258 (((5 * v1) + v2).toNatClampNeg)))), (0, xq (some 250)), (1, xi v1), (2, xi v2), (3, xi v3), (4, xi v4)]) d_RF_append_19 (Nat.le_of_ble_eq_true rfl) rfl ?_
  refine xG_aload_n d_RF_append_21 rfl rfl rfl ?_
  refine xG_getq d_RF_append_22 xf_RF_34 rfl s0_250 ?_
  refine xG_iload d_RF_append_25 rfl ?_
  refine xG_aload_n d_RF_append_27 rfl rfl rfl ?_
  refine xG_geti d_RF_append_28 xf_RF_184 rfl s0_250 ?_
  refine xG_iast d_RF_append_31 (lp_250_29 hL) s0_259 h.1 ?_
  have h := h.2
  refine xG_aload_n d_RF_append_32 rfl rfl rfl ?_
  refine xG_getq d_RF_append_33 xf_RF_40 rfl s0_250 ?_
  refine xG_iload d_RF_append_36 rfl ?_
  refine xG_iload d_RF_append_38 rfl ?_
  refine xG_iast d_RF_append_40 (lp_250_31 hL) s0_261 h.1 ?_
  have h := h.2
  refine xG_iconst (v := 0) d_RF_append_41 rfl ?_
  refine xG_istore (lv' := [(6, xi 0), (5, xi (((15 * v1) + (3 * v2)) + (I 258 (((5 * v1) + v2).toNatClampNeg)))), (0, xq (some 250)), (1, xi v1), (2, xi v2), (3, xi v3), (4, xi v4)]) d_RF_append_42 (Nat.le_of_ble_eq_true rfl) rfl ?_
  refine xG_pick [2, 3, 4, 5, 6, 1, 0] rfl ?_
  exact h
set_option maxRecDepth 20000 in
theorem b_RF_append_44 {l : Launch} {V : xV} {Q : xIt → xJt → xPt → Prop} {I : xIt} {J : xJt} {P : xPt} (hL : xL P) {v1 : Int32} {v2 : Int32} {v3 : Int32} {v4 : Int32} {v5 : Int32} {v6 : Int32} (h : (((I 250 21) ≤ v6 → G_RF_append l V Q 82 [(0, xq (some 250)), (1, xi v1), (2, xi v2), (3, xi v3), (4, xi v4), (5, xi v5), (6, xi 0)] [] I J P) ∧ (¬ (I 250 21) ≤ v6 → (vp_in v6 32 ∧ (vp_in ((6 * v5) + v6) 1170 ∧ G_RF_append l V Q 44 [(0, xq (some 250)), (1, xi v1), (2, xi v2), (3, xi v3), (4, xi v4), (5, xi v5), (6, xi (v6 + 1))] [] (xu I 260 (((6 * v5) + v6).toNatClampNeg) (I 254 v6.toNatClampNeg)) J P))))) : G_RF_append l V Q 44 [(0, xq (some 250)), (1, xi v1), (2, xi v2), (3, xi v3), (4, xi v4), (5, xi v5), (6, xi v6)] [] I J P := by
  refine xG_iload d_RF_append_44 rfl ?_
  refine xG_aload_n d_RF_append_46 rfl rfl rfl ?_
  refine xG_geti d_RF_append_47 xf_RF_184 rfl s0_250 ?_
  refine xG_icmp_ge (tgt := 79) d_RF_append_50 (by decide) (fun c => ?_) (fun c => ?_)
  · have h := h.1 c
    refine xG_iconst (v := 0) d_RF_append_79 rfl ?_
    refine xG_istore (lv' := [(6, xi 0), (0, xq (some 250)), (1, xi v1), (2, xi v2), (3, xi v3), (4, xi v4), (5, xi v5)]) d_RF_append_80 (Nat.le_of_ble_eq_true rfl) rfl ?_
    refine xG_pick [1, 2, 3, 4, 5, 6, 0] rfl ?_
    exact h
  · have h := h.2 c
    refine xG_aload_n d_RF_append_53 rfl rfl rfl ?_
    refine xG_getq d_RF_append_54 xf_RF_37 rfl s0_250 ?_
    refine xG_bipush (v := 6) d_RF_append_57 rfl ?_
    refine xG_iload d_RF_append_59 rfl ?_
    refine xG_imul d_RF_append_61 ?_
    refine xG_iload d_RF_append_62 rfl ?_
    refine xG_iadd d_RF_append_64 ?_
    refine xG_aload_n d_RF_append_65 rfl rfl rfl ?_
    refine xG_getq d_RF_append_66 xf_RF_19 rfl s0_250 ?_
    refine xG_iload d_RF_append_69 rfl ?_
    refine xG_iald d_RF_append_71 (lp_250_22 hL) s0_254 h.1 ?_
    have h := h.2
    refine xG_iast d_RF_append_72 (lp_250_30 hL) s0_260 h.1 ?_
    have h := h.2
    refine xG_iinc (v := v6 + 1) (lv' := [(6, xi (v6 + 1)), (0, xq (some 250)), (1, xi v1), (2, xi v2), (3, xi v3), (4, xi v4), (5, xi v5)]) d_RF_append_73 rfl rfl (Nat.le_of_ble_eq_true rfl) rfl ?_
    refine xG_goto (tgt := 44) d_RF_append_76 (by decide) ?_
    refine xG_pick [1, 2, 3, 4, 5, 6, 0] rfl ?_
    exact h
set_option maxRecDepth 20000 in
theorem b_RF_append_82 {l : Launch} {V : xV} {Q : xIt → xJt → xPt → Prop} {I : xIt} {J : xJt} {P : xPt} (hL : xL P) {v1 : Int32} {v2 : Int32} {v3 : Int32} {v4 : Int32} {v5 : Int32} {v6 : Int32} (h : ((v4 ≤ v6 → (vp_in ((5 * v1) + v2) 65 ∧ (vp_in ((5 * v1) + v2) 65 ∧ Q (xu I 258 (((5 * v1) + v2).toNatClampNeg) ((I 258 (((5 * v1) + v2).toNatClampNeg)) + 1)) J P))) ∧ (¬ v4 ≤ v6 → (vp_in ((8 * v3) + v6) 40 ∧ (vp_in ((6 * v5) + v6) 1170 ∧ G_RF_append l V Q 82 [(0, xq (some 250)), (1, xi v1), (2, xi v2), (3, xi v3), (4, xi v4), (5, xi v5), (6, xi (v6 + 1))] [] (xu I 262 (((6 * v5) + v6).toNatClampNeg) (I 255 (((8 * v3) + v6).toNatClampNeg))) J P))))) : G_RF_append l V Q 82 [(0, xq (some 250)), (1, xi v1), (2, xi v2), (3, xi v3), (4, xi v4), (5, xi v5), (6, xi v6)] [] I J P := by
  refine xG_iload d_RF_append_82 rfl ?_
  refine xG_iload d_RF_append_84 rfl ?_
  refine xG_icmp_ge (tgt := 120) d_RF_append_86 (by decide) (fun c => ?_) (fun c => ?_)
  · have h := h.1 c
    refine xG_aload_n d_RF_append_120 rfl rfl rfl ?_
    refine xG_getq d_RF_append_121 xf_RF_31 rfl s0_250 ?_
    refine xG_iconst (v := 5) d_RF_append_124 rfl ?_
    refine xG_iload_n d_RF_append_125 rfl rfl ?_
    refine xG_imul d_RF_append_126 ?_
    refine xG_iload_n d_RF_append_127 rfl rfl ?_
    refine xG_iadd d_RF_append_128 ?_
    refine xG_dup2 d_RF_append_129 rfl rfl ?_
    refine xG_iald d_RF_append_130 (lp_250_28 hL) s0_258 h.1 ?_
    have h := h.2
    refine xG_topi (x' := I 258 (((5 * v1) + v2).toNatClampNeg)) (by first | rfl | exact xu_at | simp [xu]) ?_
    refine xG_iconst (v := 1) d_RF_append_131 rfl ?_
    refine xG_iadd d_RF_append_132 ?_
    refine xG_iast d_RF_append_133 (lp_250_28 hL) s0_258 h.1 ?_
    have h := h.2
    exact xG_return d_RF_append_134 rfl ⟨rfl, hL, rfl, h⟩
  · have h := h.2 c
    refine xG_aload_n d_RF_append_89 rfl rfl rfl ?_
    refine xG_getq d_RF_append_90 xf_RF_43 rfl s0_250 ?_
    refine xG_bipush (v := 6) d_RF_append_93 rfl ?_
    refine xG_iload d_RF_append_95 rfl ?_
    refine xG_imul d_RF_append_97 ?_
    refine xG_iload d_RF_append_98 rfl ?_
    refine xG_iadd d_RF_append_100 ?_
    refine xG_aload_n d_RF_append_101 rfl rfl rfl ?_
    refine xG_getq d_RF_append_102 xf_RF_22 rfl s0_250 ?_
    refine xG_bipush (v := 8) d_RF_append_105 rfl ?_
    refine xG_iload_n d_RF_append_107 rfl rfl ?_
    refine xG_imul d_RF_append_108 ?_
    refine xG_iload d_RF_append_109 rfl ?_
    refine xG_iadd d_RF_append_111 ?_
    refine xG_iald d_RF_append_112 (lp_250_23 hL) s0_255 h.1 ?_
    have h := h.2
    refine xG_topi (x' := I 255 (((8 * v3) + v6).toNatClampNeg)) (by first | rfl | exact xu_at | simp [xu]) ?_
    refine xG_iast d_RF_append_113 (lp_250_32 hL) s0_262 h.1 ?_
    have h := h.2
    refine xG_iinc (v := v6 + 1) (lv' := [(6, xi (v6 + 1)), (0, xq (some 250)), (1, xi v1), (2, xi v2), (3, xi v3), (4, xi v4), (5, xi v5)]) d_RF_append_114 rfl rfl (Nat.le_of_ble_eq_true rfl) rfl ?_
    refine xG_goto (tgt := 82) d_RF_append_117 (by decide) ?_
    refine xG_pick [1, 2, 3, 4, 5, 6, 0] rfl ?_
    exact h
theorem e_RF_append {l : Launch} {V : xV} {Q : xIt → xJt → xPt → Prop} {I : xIt} {J : xJt} {P : xPt} {v1 : Int32} {v2 : Int32} {v3 : Int32} {v4 : Int32} (h : G_RF_append l V Q 0 [(0, xq (some 250)), (1, xi v1), (2, xi v2), (3, xi v3), (4, xi v4)] [] I J P) : xMet l V y_RF_append 1 0 0 [xq (some 250), xi v1, xi v2, xi v3, xi v4] xS0 I J P (xPv Q) := xMet_of (by decide) (Nat.le_of_ble_eq_true rfl) h

abbrev G_RF_copyValue (l : Launch) (V : xV) (Q : xIt → xJt → xPt → Prop) (pc : Nat) (lv : List (Nat × xX)) (st : List xX) (I : xIt) (J : xJt) (P : xPt) : Prop := xG l V y_RF_copyValue (xR 1 0 0) (xFn V y_RF_copyValue (xR 1 0 0) (xPv Q)) pc lv st xS0 I J P (0, 0)
set_option maxRecDepth 20000 in
theorem b_RF_copyValue_0 {l : Launch} {V : xV} {Q : xIt → xJt → xPt → Prop} {I : xIt} {J : xJt} {P : xPt} (hL : xL P) {v1 : Int32} {v2 : Int32} (h : (vp_in v1 195 ∧ (vp_in v2 195 ∧ (vp_in v1 195 ∧ (vp_in v2 195 ∧ G_RF_copyValue l V Q 26 [(0, xq (some 250)), (1, xi v1), (2, xi v2), (3, xi 0)] [] (xu (xu I 259 v2.toNatClampNeg (I 259 v1.toNatClampNeg)) 261 v2.toNatClampNeg (I 261 v1.toNatClampNeg)) J P))))) : G_RF_copyValue l V Q 0 [(0, xq (some 250)), (1, xi v1), (2, xi v2)] [] I J P := by
  refine xG_aload_n d_RF_copyValue_0 rfl rfl rfl ?_
  refine xG_getq d_RF_copyValue_1 xf_RF_34 rfl s0_250 ?_
  refine xG_iload_n d_RF_copyValue_4 rfl rfl ?_
  refine xG_aload_n d_RF_copyValue_5 rfl rfl rfl ?_
  refine xG_getq d_RF_copyValue_6 xf_RF_34 rfl s0_250 ?_
  refine xG_iload_n d_RF_copyValue_9 rfl rfl ?_
  refine xG_iald d_RF_copyValue_10 (lp_250_29 hL) s0_259 h.1 ?_
  have h := h.2
  refine xG_iast d_RF_copyValue_11 (lp_250_29 hL) s0_259 h.1 ?_
  have h := h.2
  refine xG_aload_n d_RF_copyValue_12 rfl rfl rfl ?_
  refine xG_getq d_RF_copyValue_13 xf_RF_40 rfl s0_250 ?_
  refine xG_iload_n d_RF_copyValue_16 rfl rfl ?_
  refine xG_aload_n d_RF_copyValue_17 rfl rfl rfl ?_
  refine xG_getq d_RF_copyValue_18 xf_RF_40 rfl s0_250 ?_
  refine xG_iload_n d_RF_copyValue_21 rfl rfl ?_
  refine xG_iald d_RF_copyValue_22 (lp_250_31 hL) s0_261 h.1 ?_
  have h := h.2
  refine xG_topi (x' := I 261 v1.toNatClampNeg) (by first | rfl | exact xu_at | simp [xu]) ?_
  refine xG_iast d_RF_copyValue_23 (lp_250_31 hL) s0_261 h.1 ?_
  have h := h.2
  refine xG_iconst (v := 0) d_RF_copyValue_24 rfl ?_
  refine xG_istore_n (lv' := [(3, xi 0), (0, xq (some 250)), (1, xi v1), (2, xi v2)]) d_RF_copyValue_25 rfl (Nat.le_of_ble_eq_true rfl) rfl ?_
  refine xG_pick [1, 2, 3, 0] rfl ?_
  exact h
set_option maxRecDepth 20000 in
theorem b_RF_copyValue_26 {l : Launch} {V : xV} {Q : xIt → xJt → xPt → Prop} {I : xIt} {J : xJt} {P : xPt} (hL : xL P) {v1 : Int32} {v2 : Int32} {v3 : Int32} (h : ((6 ≤ v3 → Q I J P) ∧ (¬ 6 ≤ v3 → (vp_in ((6 * v1) + v3) 1170 ∧ (vp_in ((6 * v2) + v3) 1170 ∧ (vp_in ((6 * v1) + v3) 1170 ∧ (vp_in ((6 * v2) + v3) 1170 ∧ G_RF_copyValue l V Q 26 [(0, xq (some 250)), (1, xi v1), (2, xi v2), (3, xi (v3 + 1))] [] (xu (xu I 260 (((6 * v2) + v3).toNatClampNeg) (I 260 (((6 * v1) + v3).toNatClampNeg))) 262 (((6 * v2) + v3).toNatClampNeg) (I 262 (((6 * v1) + v3).toNatClampNeg))) J P))))))) : G_RF_copyValue l V Q 26 [(0, xq (some 250)), (1, xi v1), (2, xi v2), (3, xi v3)] [] I J P := by
  refine xG_iload_n d_RF_copyValue_26 rfl rfl ?_
  refine xG_bipush (v := 6) d_RF_copyValue_27 rfl ?_
  refine xG_icmp_ge (tgt := 82) d_RF_copyValue_29 (by decide) (fun c => ?_) (fun c => ?_)
  · have h := h.1 c
    exact xG_return d_RF_copyValue_82 rfl ⟨rfl, hL, rfl, h⟩
  · have h := h.2 c
    refine xG_aload_n d_RF_copyValue_32 rfl rfl rfl ?_
    refine xG_getq d_RF_copyValue_33 xf_RF_37 rfl s0_250 ?_
    refine xG_bipush (v := 6) d_RF_copyValue_36 rfl ?_
    refine xG_iload_n d_RF_copyValue_38 rfl rfl ?_
    refine xG_imul d_RF_copyValue_39 ?_
    refine xG_iload_n d_RF_copyValue_40 rfl rfl ?_
    refine xG_iadd d_RF_copyValue_41 ?_
    refine xG_aload_n d_RF_copyValue_42 rfl rfl rfl ?_
    refine xG_getq d_RF_copyValue_43 xf_RF_37 rfl s0_250 ?_
    refine xG_bipush (v := 6) d_RF_copyValue_46 rfl ?_
    refine xG_iload_n d_RF_copyValue_48 rfl rfl ?_
    refine xG_imul d_RF_copyValue_49 ?_
    refine xG_iload_n d_RF_copyValue_50 rfl rfl ?_
    refine xG_iadd d_RF_copyValue_51 ?_
    refine xG_iald d_RF_copyValue_52 (lp_250_30 hL) s0_260 h.1 ?_
    have h := h.2
    refine xG_topi (x' := I 260 (((6 * v1) + v3).toNatClampNeg)) (by first | rfl | exact xu_at | simp [xu]) ?_
    refine xG_iast d_RF_copyValue_53 (lp_250_30 hL) s0_260 h.1 ?_
    have h := h.2
    refine xG_aload_n d_RF_copyValue_54 rfl rfl rfl ?_
    refine xG_getq d_RF_copyValue_55 xf_RF_43 rfl s0_250 ?_
    refine xG_bipush (v := 6) d_RF_copyValue_58 rfl ?_
    refine xG_iload_n d_RF_copyValue_60 rfl rfl ?_
    refine xG_imul d_RF_copyValue_61 ?_
    refine xG_iload_n d_RF_copyValue_62 rfl rfl ?_
    refine xG_iadd d_RF_copyValue_63 ?_
    refine xG_aload_n d_RF_copyValue_64 rfl rfl rfl ?_
    refine xG_getq d_RF_copyValue_65 xf_RF_43 rfl s0_250 ?_
    refine xG_bipush (v := 6) d_RF_copyValue_68 rfl ?_
    refine xG_iload_n d_RF_copyValue_70 rfl rfl ?_
    refine xG_imul d_RF_copyValue_71 ?_
    refine xG_iload_n d_RF_copyValue_72 rfl rfl ?_
    refine xG_iadd d_RF_copyValue_73 ?_
    refine xG_iald d_RF_copyValue_74 (lp_250_32 hL) s0_262 h.1 ?_
    have h := h.2
    refine xG_topi (x' := I 262 (((6 * v1) + v3).toNatClampNeg)) (by first | rfl | exact xu_at | simp [xu]) ?_
    refine xG_iast d_RF_copyValue_75 (lp_250_32 hL) s0_262 h.1 ?_
    have h := h.2
    refine xG_iinc (v := v3 + 1) (lv' := [(3, xi (v3 + 1)), (0, xq (some 250)), (1, xi v1), (2, xi v2)]) d_RF_copyValue_76 rfl rfl (Nat.le_of_ble_eq_true rfl) rfl ?_
    refine xG_goto (tgt := 26) d_RF_copyValue_79 (by decide) ?_
    refine xG_pick [1, 2, 3, 0] rfl ?_
    exact h
theorem e_RF_copyValue {l : Launch} {V : xV} {Q : xIt → xJt → xPt → Prop} {I : xIt} {J : xJt} {P : xPt} {v1 : Int32} {v2 : Int32} (h : G_RF_copyValue l V Q 0 [(0, xq (some 250)), (1, xi v1), (2, xi v2)] [] I J P) : xMet l V y_RF_copyValue 1 0 0 [xq (some 250), xi v1, xi v2] xS0 I J P (xPv Q) := xMet_of (by decide) (Nat.le_of_ble_eq_true rfl) h

abbrev G_RF_takeAway (l : Launch) (V : xV) (Q : xIt → xJt → xPt → Prop) (pc : Nat) (lv : List (Nat × xX)) (st : List xX) (I : xIt) (J : xJt) (P : xPt) : Prop := xG l V y_RF_takeAway (xR 2 0 0) (xFn V y_RF_takeAway (xR 2 0 0) (xPv Q)) pc lv st xS0 I J P (0, 0)
set_option maxRecDepth 20000 in
theorem b_RF_takeAway_0 {l : Launch} {V : xV} {Q : xIt → xJt → xPt → Prop} {I : xIt} {J : xJt} {P : xPt} (hL : xL P) {v1 : Int32} {v2 : Int32} {v3 : Int32} (h : (vp_in ((5 * v1) + v2) 65 ∧ (vp_in ((5 * v1) + v2) 65 ∧ G_RF_takeAway l V Q 27 [(0, xq (some 250)), (1, xi v1), (2, xi v2), (3, xi v3), (4, xi ((15 * v1) + (3 * v2))), (5, xi v3)] [] (xu I 258 (((5 * v1) + v2).toNatClampNeg) ((I 258 (((5 * v1) + v2).toNatClampNeg)) - 1)) J P))) : G_RF_takeAway l V Q 0 [(0, xq (some 250)), (1, xi v1), (2, xi v2), (3, xi v3)] [] I J P := by
  refine xG_bipush (v := 15) d_RF_takeAway_0 rfl ?_
  refine xG_iload_n d_RF_takeAway_2 rfl rfl ?_
  refine xG_imul d_RF_takeAway_3 ?_
  refine xG_iconst (v := 3) d_RF_takeAway_4 rfl ?_
  refine xG_iload_n d_RF_takeAway_5 rfl rfl ?_
  refine xG_imul d_RF_takeAway_6 ?_
  refine xG_iadd d_RF_takeAway_7 ?_
  refine xG_istore (lv' := [(4, xi ((15 * v1) + (3 * v2))), (0, xq (some 250)), (1, xi v1), (2, xi v2), (3, xi v3)]) d_RF_takeAway_8 (Nat.le_of_ble_eq_true rfl) rfl ?_
  refine xG_aload_n d_RF_takeAway_10 rfl rfl rfl ?_
  refine xG_getq d_RF_takeAway_11 xf_RF_31 rfl s0_250 ?_
  refine xG_iconst (v := 5) d_RF_takeAway_14 rfl ?_
  refine xG_iload_n d_RF_takeAway_15 rfl rfl ?_
  refine xG_imul d_RF_takeAway_16 ?_
  refine xG_iload_n d_RF_takeAway_17 rfl rfl ?_
  refine xG_iadd d_RF_takeAway_18 ?_
  refine xG_dup2 d_RF_takeAway_19 rfl rfl ?_
  refine xG_iald d_RF_takeAway_20 (lp_250_28 hL) s0_258 h.1 ?_
  have h := h.2
  refine xG_topi (x' := I 258 (((5 * v1) + v2).toNatClampNeg)) (by first | rfl | exact xu_at | simp [xu]) ?_
  refine xG_iconst (v := 1) d_RF_takeAway_21 rfl ?_
  refine xG_isub d_RF_takeAway_22 ?_
  refine xG_iast d_RF_takeAway_23 (lp_250_28 hL) s0_258 h.1 ?_
  have h := h.2
  refine xG_iload_n d_RF_takeAway_24 rfl rfl ?_
  refine xG_istore (lv' := [(5, xi v3), (4, xi ((15 * v1) + (3 * v2))), (0, xq (some 250)), (1, xi v1), (2, xi v2), (3, xi v3)]) d_RF_takeAway_25 (Nat.le_of_ble_eq_true rfl) rfl ?_
  refine xG_pick [2, 3, 4, 5, 1, 0] rfl ?_
  exact h
set_option maxRecDepth 20000 in
theorem b_RF_takeAway_27 {l : Launch} {V : xV} {Q : xIt → xJt → xPt → Prop} {I : xIt} {J : xJt} {P : xPt} (hL : xL P) {v1 : Int32} {v2 : Int32} {v3 : Int32} {v4 : Int32} {v5 : Int32} (h : (vp_in ((5 * v1) + v2) 65 ∧ (((I 258 (((5 * v1) + v2).toNatClampNeg)) ≤ v5 → Q I J P) ∧ (¬ (I 258 (((5 * v1) + v2).toNatClampNeg)) ≤ v5 → (∃ Q1 : xIt → xJt → xPt → Prop, xMet l V y_RF_copyValue 1 0 0 [xq (some 250), xi ((v4 + v5) + 1), xi (v4 + v5)] xS0 I J P (xPv Q1) ∧ ∀ (I1 : xIt) (J1 : xJt) (P1 : xPt), Q1 I1 J1 P1 → G_RF_takeAway l V Q 27 [(0, xq (some 250)), (1, xi v1), (2, xi v2), (3, xi v3), (4, xi v4), (5, xi (v5 + 1))] [] I1 J1 P1))))) : G_RF_takeAway l V Q 27 [(0, xq (some 250)), (1, xi v1), (2, xi v2), (3, xi v3), (4, xi v4), (5, xi v5)] [] I J P := by
  refine xG_iload d_RF_takeAway_27 rfl ?_
  refine xG_aload_n d_RF_takeAway_29 rfl rfl rfl ?_
  refine xG_getq d_RF_takeAway_30 xf_RF_31 rfl s0_250 ?_
  refine xG_iconst (v := 5) d_RF_takeAway_33 rfl ?_
  refine xG_iload_n d_RF_takeAway_34 rfl rfl ?_
  refine xG_imul d_RF_takeAway_35 ?_
  refine xG_iload_n d_RF_takeAway_36 rfl rfl ?_
  refine xG_iadd d_RF_takeAway_37 ?_
  refine xG_iald d_RF_takeAway_38 (lp_250_28 hL) s0_258 h.1 ?_
  have h := h.2
  refine xG_topi (x' := I 258 (((5 * v1) + v2).toNatClampNeg)) (by first | rfl | exact xu_at | simp [xu]) ?_
  refine xG_icmp_ge (tgt := 64) d_RF_takeAway_39 (by decide) (fun c => ?_) (fun c => ?_)
  · have h := h.1 c
    exact xG_return d_RF_takeAway_64 rfl ⟨rfl, hL, rfl, h⟩
  · have h := h.2 c
    refine xG_aload_n d_RF_takeAway_42 rfl rfl rfl ?_
    refine xG_iload d_RF_takeAway_43 rfl ?_
    refine xG_iload d_RF_takeAway_45 rfl ?_
    refine xG_iadd d_RF_takeAway_47 ?_
    refine xG_iconst (v := 1) d_RF_takeAway_48 rfl ?_
    refine xG_iadd d_RF_takeAway_49 ?_
    refine xG_iload d_RF_takeAway_50 rfl ?_
    refine xG_iload d_RF_takeAway_52 rfl ?_
    refine xG_iadd d_RF_takeAway_54 ?_
    obtain ⟨Q1, hM, h⟩ := h
    refine xG_callv (as := [xi ((v4 + v5) + 1), xi (v4 + v5)]) (rest := []) d_RF_takeAway_55 yv_RF_copyValue w5_125 rfl rfl rfl s0_250 (by decide) rfl hM ⟨by decide, by decide⟩ (Nat.le_of_ble_eq_true rfl) ⟨Nat.zero_le _, Nat.zero_le _⟩ (fun r S1 I1 J1 P1 hp => ?_)
    obtain ⟨rfl, hL1, rfl, hq⟩ := hp
    have h := h I1 J1 P1 hq
    refine xG_iinc (v := v5 + 1) (lv' := [(5, xi (v5 + 1)), (0, xq (some 250)), (1, xi v1), (2, xi v2), (3, xi v3), (4, xi v4)]) d_RF_takeAway_58 rfl rfl (Nat.le_of_ble_eq_true rfl) rfl ?_
    refine xG_goto (tgt := 27) d_RF_takeAway_61 (by decide) ?_
    refine xG_pick [1, 2, 3, 4, 5, 0] rfl ?_
    exact h
theorem e_RF_takeAway {l : Launch} {V : xV} {Q : xIt → xJt → xPt → Prop} {I : xIt} {J : xJt} {P : xPt} {v1 : Int32} {v2 : Int32} {v3 : Int32} (h : G_RF_takeAway l V Q 0 [(0, xq (some 250)), (1, xi v1), (2, xi v2), (3, xi v3)] [] I J P) : xMet l V y_RF_takeAway 2 0 0 [xq (some 250), xi v1, xi v2, xi v3] xS0 I J P (xPv Q) := xMet_of (by decide) (Nat.le_of_ble_eq_true rfl) h

abbrev G_RF_copyEntry (l : Launch) (V : xV) (Q : xIt → xJt → xPt → Prop) (pc : Nat) (lv : List (Nat × xX)) (st : List xX) (I : xIt) (J : xJt) (P : xPt) : Prop := xG l V y_RF_copyEntry (xR 2 0 0) (xFn V y_RF_copyEntry (xR 2 0 0) (xPv Q)) pc lv st xS0 I J P (0, 0)
set_option maxRecDepth 20000 in
theorem b_RF_copyEntry_0 {l : Launch} {V : xV} {Q : xIt → xJt → xPt → Prop} {I : xIt} {J : xJt} {P : xPt} (hL : xL P) {v1 : Int32} {v2 : Int32} (h : G_RF_copyEntry l V Q 2 [(0, xq (some 250)), (1, xi v1), (2, xi v2), (3, xi 0)] [] I J P) : G_RF_copyEntry l V Q 0 [(0, xq (some 250)), (1, xi v1), (2, xi v2)] [] I J P := by
  refine xG_iconst (v := 0) d_RF_copyEntry_0 rfl ?_
  refine xG_istore_n (lv' := [(3, xi 0), (0, xq (some 250)), (1, xi v1), (2, xi v2)]) d_RF_copyEntry_1 rfl (Nat.le_of_ble_eq_true rfl) rfl ?_
  refine xG_pick [1, 2, 3, 0] rfl ?_
  exact h
set_option maxRecDepth 20000 in
theorem b_RF_copyEntry_2 {l : Launch} {V : xV} {Q : xIt → xJt → xPt → Prop} {I : xIt} {J : xJt} {P : xPt} (hL : xL P) {v1 : Int32} {v2 : Int32} {v3 : Int32} (h : ((5 ≤ v3 → G_RF_copyEntry l V Q 35 [(0, xq (some 250)), (1, xi v1), (2, xi v2), (3, xi 0)] [] I J P) ∧ (¬ 5 ≤ v3 → (vp_in ((5 * v1) + v3) 65 ∧ (vp_in ((5 * v2) + v3) 65 ∧ G_RF_copyEntry l V Q 2 [(0, xq (some 250)), (1, xi v1), (2, xi v2), (3, xi (v3 + 1))] [] (xu I 258 (((5 * v2) + v3).toNatClampNeg) (I 258 (((5 * v1) + v3).toNatClampNeg))) J P))))) : G_RF_copyEntry l V Q 2 [(0, xq (some 250)), (1, xi v1), (2, xi v2), (3, xi v3)] [] I J P := by
  refine xG_iload_n d_RF_copyEntry_2 rfl rfl ?_
  refine xG_iconst (v := 5) d_RF_copyEntry_3 rfl ?_
  refine xG_icmp_ge (tgt := 33) d_RF_copyEntry_4 (by decide) (fun c => ?_) (fun c => ?_)
  · have h := h.1 c
    refine xG_iconst (v := 0) d_RF_copyEntry_33 rfl ?_
    refine xG_istore_n (lv' := [(3, xi 0), (0, xq (some 250)), (1, xi v1), (2, xi v2)]) d_RF_copyEntry_34 rfl (Nat.le_of_ble_eq_true rfl) rfl ?_
    refine xG_pick [1, 2, 3, 0] rfl ?_
    exact h
  · have h := h.2 c
    refine xG_aload_n d_RF_copyEntry_7 rfl rfl rfl ?_
    refine xG_getq d_RF_copyEntry_8 xf_RF_31 rfl s0_250 ?_
    refine xG_iconst (v := 5) d_RF_copyEntry_11 rfl ?_
    refine xG_iload_n d_RF_copyEntry_12 rfl rfl ?_
    refine xG_imul d_RF_copyEntry_13 ?_
    refine xG_iload_n d_RF_copyEntry_14 rfl rfl ?_
    refine xG_iadd d_RF_copyEntry_15 ?_
    refine xG_aload_n d_RF_copyEntry_16 rfl rfl rfl ?_
    refine xG_getq d_RF_copyEntry_17 xf_RF_31 rfl s0_250 ?_
    refine xG_iconst (v := 5) d_RF_copyEntry_20 rfl ?_
    refine xG_iload_n d_RF_copyEntry_21 rfl rfl ?_
    refine xG_imul d_RF_copyEntry_22 ?_
    refine xG_iload_n d_RF_copyEntry_23 rfl rfl ?_
    refine xG_iadd d_RF_copyEntry_24 ?_
    refine xG_iald d_RF_copyEntry_25 (lp_250_28 hL) s0_258 h.1 ?_
    have h := h.2
    refine xG_topi (x' := I 258 (((5 * v1) + v3).toNatClampNeg)) (by first | rfl | exact xu_at | simp [xu]) ?_
    refine xG_iast d_RF_copyEntry_26 (lp_250_28 hL) s0_258 h.1 ?_
    have h := h.2
    refine xG_iinc (v := v3 + 1) (lv' := [(3, xi (v3 + 1)), (0, xq (some 250)), (1, xi v1), (2, xi v2)]) d_RF_copyEntry_27 rfl rfl (Nat.le_of_ble_eq_true rfl) rfl ?_
    refine xG_goto (tgt := 2) d_RF_copyEntry_30 (by decide) ?_
    refine xG_pick [1, 2, 3, 0] rfl ?_
    exact h
set_option maxRecDepth 20000 in
theorem b_RF_copyEntry_35 {l : Launch} {V : xV} {Q : xIt → xJt → xPt → Prop} {I : xIt} {J : xJt} {P : xPt} (hL : xL P) {v1 : Int32} {v2 : Int32} {v3 : Int32} (h : ((15 ≤ v3 → (vp_in v1 13 ∧ (vp_in v2 13 ∧ (vp_in v1 13 ∧ (vp_in v2 13 ∧ (vp_in v1 13 ∧ (vp_in v2 13 ∧ G_RF_copyEntry l V Q 101 [(0, xq (some 250)), (1, xi v1), (2, xi v2), (3, xi 0)] [] (xu (xu (xu I 263 v2.toNatClampNeg (I 263 v1.toNatClampNeg)) 264 v2.toNatClampNeg (I 264 v1.toNatClampNeg)) 265 v2.toNatClampNeg (I 265 v1.toNatClampNeg)) J P))))))) ∧ (¬ 15 ≤ v3 → (∃ Q1 : xIt → xJt → xPt → Prop, xMet l V y_RF_copyValue 1 0 0 [xq (some 250), xi ((15 * v1) + v3), xi ((15 * v2) + v3)] xS0 I J P (xPv Q1) ∧ ∀ (I1 : xIt) (J1 : xJt) (P1 : xPt), Q1 I1 J1 P1 → G_RF_copyEntry l V Q 35 [(0, xq (some 250)), (1, xi v1), (2, xi v2), (3, xi (v3 + 1))] [] I1 J1 P1)))) : G_RF_copyEntry l V Q 35 [(0, xq (some 250)), (1, xi v1), (2, xi v2), (3, xi v3)] [] I J P := by
  refine xG_iload_n d_RF_copyEntry_35 rfl rfl ?_
  refine xG_bipush (v := 15) d_RF_copyEntry_36 rfl ?_
  refine xG_icmp_ge (tgt := 63) d_RF_copyEntry_38 (by decide) (fun c => ?_) (fun c => ?_)
  · have h := h.1 c
    refine xG_aload_n d_RF_copyEntry_63 rfl rfl rfl ?_
    refine xG_getq d_RF_copyEntry_64 xf_RF_46 rfl s0_250 ?_
    refine xG_iload_n d_RF_copyEntry_67 rfl rfl ?_
    refine xG_aload_n d_RF_copyEntry_68 rfl rfl rfl ?_
    refine xG_getq d_RF_copyEntry_69 xf_RF_46 rfl s0_250 ?_
    refine xG_iload_n d_RF_copyEntry_72 rfl rfl ?_
    refine xG_iald d_RF_copyEntry_73 (lp_250_33 hL) s0_263 h.1 ?_
    have h := h.2
    refine xG_iast d_RF_copyEntry_74 (lp_250_33 hL) s0_263 h.1 ?_
    have h := h.2
    refine xG_aload_n d_RF_copyEntry_75 rfl rfl rfl ?_
    refine xG_getq d_RF_copyEntry_76 xf_RF_49 rfl s0_250 ?_
    refine xG_iload_n d_RF_copyEntry_79 rfl rfl ?_
    refine xG_aload_n d_RF_copyEntry_80 rfl rfl rfl ?_
    refine xG_getq d_RF_copyEntry_81 xf_RF_49 rfl s0_250 ?_
    refine xG_iload_n d_RF_copyEntry_84 rfl rfl ?_
    refine xG_iald d_RF_copyEntry_85 (lp_250_34 hL) s0_264 h.1 ?_
    have h := h.2
    refine xG_topi (x' := I 264 v1.toNatClampNeg) (by first | rfl | exact xu_at | simp [xu]) ?_
    refine xG_iast d_RF_copyEntry_86 (lp_250_34 hL) s0_264 h.1 ?_
    have h := h.2
    refine xG_aload_n d_RF_copyEntry_87 rfl rfl rfl ?_
    refine xG_getq d_RF_copyEntry_88 xf_RF_52 rfl s0_250 ?_
    refine xG_iload_n d_RF_copyEntry_91 rfl rfl ?_
    refine xG_aload_n d_RF_copyEntry_92 rfl rfl rfl ?_
    refine xG_getq d_RF_copyEntry_93 xf_RF_52 rfl s0_250 ?_
    refine xG_iload_n d_RF_copyEntry_96 rfl rfl ?_
    refine xG_iald d_RF_copyEntry_97 (lp_250_35 hL) s0_265 h.1 ?_
    have h := h.2
    refine xG_topi (x' := I 265 v1.toNatClampNeg) (by first | rfl | exact xu_at | simp [xu]) ?_
    refine xG_iast d_RF_copyEntry_98 (lp_250_35 hL) s0_265 h.1 ?_
    have h := h.2
    refine xG_iconst (v := 0) d_RF_copyEntry_99 rfl ?_
    refine xG_istore_n (lv' := [(3, xi 0), (0, xq (some 250)), (1, xi v1), (2, xi v2)]) d_RF_copyEntry_100 rfl (Nat.le_of_ble_eq_true rfl) rfl ?_
    refine xG_pick [1, 2, 3, 0] rfl ?_
    exact h
  · have h := h.2 c
    refine xG_aload_n d_RF_copyEntry_41 rfl rfl rfl ?_
    refine xG_bipush (v := 15) d_RF_copyEntry_42 rfl ?_
    refine xG_iload_n d_RF_copyEntry_44 rfl rfl ?_
    refine xG_imul d_RF_copyEntry_45 ?_
    refine xG_iload_n d_RF_copyEntry_46 rfl rfl ?_
    refine xG_iadd d_RF_copyEntry_47 ?_
    refine xG_bipush (v := 15) d_RF_copyEntry_48 rfl ?_
    refine xG_iload_n d_RF_copyEntry_50 rfl rfl ?_
    refine xG_imul d_RF_copyEntry_51 ?_
    refine xG_iload_n d_RF_copyEntry_52 rfl rfl ?_
    refine xG_iadd d_RF_copyEntry_53 ?_
    obtain ⟨Q1, hM, h⟩ := h
    refine xG_callv (as := [xi ((15 * v1) + v3), xi ((15 * v2) + v3)]) (rest := []) d_RF_copyEntry_54 yv_RF_copyValue w5_125 rfl rfl rfl s0_250 (by decide) rfl hM ⟨by decide, by decide⟩ (Nat.le_of_ble_eq_true rfl) ⟨Nat.zero_le _, Nat.zero_le _⟩ (fun r S1 I1 J1 P1 hp => ?_)
    obtain ⟨rfl, hL1, rfl, hq⟩ := hp
    have h := h I1 J1 P1 hq
    refine xG_iinc (v := v3 + 1) (lv' := [(3, xi (v3 + 1)), (0, xq (some 250)), (1, xi v1), (2, xi v2)]) d_RF_copyEntry_57 rfl rfl (Nat.le_of_ble_eq_true rfl) rfl ?_
    refine xG_goto (tgt := 35) d_RF_copyEntry_60 (by decide) ?_
    refine xG_pick [1, 2, 3, 0] rfl ?_
    exact h
set_option maxRecDepth 20000 in
theorem b_RF_copyEntry_101 {l : Launch} {V : xV} {Q : xIt → xJt → xPt → Prop} {I : xIt} {J : xJt} {P : xPt} (hL : xL P) {v1 : Int32} {v2 : Int32} {v3 : Int32} (h : ((6 ≤ v3 → Q I J P) ∧ (¬ 6 ≤ v3 → (vp_in ((6 * v1) + v3) 78 ∧ (vp_in ((6 * v2) + v3) 78 ∧ G_RF_copyEntry l V Q 101 [(0, xq (some 250)), (1, xi v1), (2, xi v2), (3, xi (v3 + 1))] [] (xu I 266 (((6 * v2) + v3).toNatClampNeg) (I 266 (((6 * v1) + v3).toNatClampNeg))) J P))))) : G_RF_copyEntry l V Q 101 [(0, xq (some 250)), (1, xi v1), (2, xi v2), (3, xi v3)] [] I J P := by
  refine xG_iload_n d_RF_copyEntry_101 rfl rfl ?_
  refine xG_bipush (v := 6) d_RF_copyEntry_102 rfl ?_
  refine xG_icmp_ge (tgt := 135) d_RF_copyEntry_104 (by decide) (fun c => ?_) (fun c => ?_)
  · have h := h.1 c
    exact xG_return d_RF_copyEntry_135 rfl ⟨rfl, hL, rfl, h⟩
  · have h := h.2 c
    refine xG_aload_n d_RF_copyEntry_107 rfl rfl rfl ?_
    refine xG_getq d_RF_copyEntry_108 xf_RF_55 rfl s0_250 ?_
    refine xG_bipush (v := 6) d_RF_copyEntry_111 rfl ?_
    refine xG_iload_n d_RF_copyEntry_113 rfl rfl ?_
    refine xG_imul d_RF_copyEntry_114 ?_
    refine xG_iload_n d_RF_copyEntry_115 rfl rfl ?_
    refine xG_iadd d_RF_copyEntry_116 ?_
    refine xG_aload_n d_RF_copyEntry_117 rfl rfl rfl ?_
    refine xG_getq d_RF_copyEntry_118 xf_RF_55 rfl s0_250 ?_
    refine xG_bipush (v := 6) d_RF_copyEntry_121 rfl ?_
    refine xG_iload_n d_RF_copyEntry_123 rfl rfl ?_
    refine xG_imul d_RF_copyEntry_124 ?_
    refine xG_iload_n d_RF_copyEntry_125 rfl rfl ?_
    refine xG_iadd d_RF_copyEntry_126 ?_
    refine xG_iald d_RF_copyEntry_127 (lp_250_36 hL) s0_266 h.1 ?_
    have h := h.2
    refine xG_topi (x' := I 266 (((6 * v1) + v3).toNatClampNeg)) (by first | rfl | exact xu_at | simp [xu]) ?_
    refine xG_iast d_RF_copyEntry_128 (lp_250_36 hL) s0_266 h.1 ?_
    have h := h.2
    refine xG_iinc (v := v3 + 1) (lv' := [(3, xi (v3 + 1)), (0, xq (some 250)), (1, xi v1), (2, xi v2)]) d_RF_copyEntry_129 rfl rfl (Nat.le_of_ble_eq_true rfl) rfl ?_
    refine xG_goto (tgt := 101) d_RF_copyEntry_132 (by decide) ?_
    refine xG_pick [1, 2, 3, 0] rfl ?_
    exact h
theorem e_RF_copyEntry {l : Launch} {V : xV} {Q : xIt → xJt → xPt → Prop} {I : xIt} {J : xJt} {P : xPt} {v1 : Int32} {v2 : Int32} (h : G_RF_copyEntry l V Q 0 [(0, xq (some 250)), (1, xi v1), (2, xi v2)] [] I J P) : xMet l V y_RF_copyEntry 2 0 0 [xq (some 250), xi v1, xi v2] xS0 I J P (xPv Q) := xMet_of (by decide) (Nat.le_of_ble_eq_true rfl) h

abbrev G_RF_readName (l : Launch) (V : xV) (Q : Int32 → xIt → xJt → xPt → Prop) (pc : Nat) (lv : List (Nat × xX)) (st : List xX) (I : xIt) (J : xJt) (P : xPt) : Prop := xG l V y_RF_readName (xR 4 0 0) (xFn V y_RF_readName (xR 4 0 0) (xPi Q)) pc lv st xS0 I J P (0, 0)
set_option maxRecDepth 20000 in
theorem b_RF_readName_0 {l : Launch} {V : xV} {Q : Int32 → xIt → xJt → xPt → Prop} {I : xIt} {J : xJt} {P : xPt} (hL : xL P) {v1 : Int32} {v2 : Int32} (h : ((v2 ≤ v1 → G_RF_readName l V Q 19 [(0, xq (some 250)), (1, xi v1), (2, xi v2), (3, xi v1), (4, xi 0)] [] (xu I 250 24 0) J P) ∧ (¬ v2 ≤ v1 → G_RF_readName l V Q 19 [(0, xq (some 250)), (1, xi v1), (2, xi v2), (3, xi v1), (4, xi 1)] [] (xu I 250 24 0) J P))) : G_RF_readName l V Q 0 [(0, xq (some 250)), (1, xi v1), (2, xi v2)] [] I J P := by
  refine xG_iload_n d_RF_readName_0 rfl rfl ?_
  refine xG_istore_n (lv' := [(3, xi v1), (0, xq (some 250)), (1, xi v1), (2, xi v2)]) d_RF_readName_1 rfl (Nat.le_of_ble_eq_true rfl) rfl ?_
  refine xG_aload_n d_RF_readName_2 rfl rfl rfl ?_
  refine xG_iconst (v := 0) d_RF_readName_3 rfl ?_
  refine xG_puti d_RF_readName_4 xf_RF_198 (Or.inl rfl) rfl s0_250 rfl rfl ?_
  refine xG_iload_n d_RF_readName_7 rfl rfl ?_
  refine xG_iload_n d_RF_readName_8 rfl rfl ?_
  refine xG_icmp_ge (tgt := 16) d_RF_readName_9 (by decide) (fun c => ?_) (fun c => ?_)
  · have h := h.1 c
    refine xG_iconst (v := 0) d_RF_readName_16 rfl ?_
    refine xG_istore (lv' := [(4, xi 0), (3, xi v1), (0, xq (some 250)), (1, xi v1), (2, xi v2)]) d_RF_readName_17 (Nat.le_of_ble_eq_true rfl) rfl ?_
    refine xG_pick [2, 3, 4, 1, 0] rfl ?_
    exact h
  · have h := h.2 c
    refine xG_iconst (v := 1) d_RF_readName_12 rfl ?_
    refine xG_goto (tgt := 17) d_RF_readName_13 (by decide) ?_
    refine xG_istore (lv' := [(4, xi 1), (3, xi v1), (0, xq (some 250)), (1, xi v1), (2, xi v2)]) d_RF_readName_17 (Nat.le_of_ble_eq_true rfl) rfl ?_
    refine xG_pick [2, 3, 4, 1, 0] rfl ?_
    exact h
set_option maxRecDepth 20000 in
theorem b_RF_readName_19 {l : Launch} {V : xV} {Q : Int32 → xIt → xJt → xPt → Prop} {I : xIt} {J : xJt} {P : xPt} (hL : xL P) {v1 : Int32} {v2 : Int32} {v3 : Int32} {v4 : Int32} (h : ((v4 = 0 → Q (I 250 24) I J P) ∧ (¬ v4 = 0 → ((v2 ≤ (v3 + 1) → G_RF_readName l V Q 43 [(0, xq (some 250)), (1, xi v1), (2, xi v2), (3, xi v3), (4, xi v4)] [xi (-1)] I J P) ∧ (¬ v2 ≤ (v3 + 1) → (∃ Q1 : Int32 → xIt → xJt → xPt → Prop, xMet l V y_RF_typeAt 2 0 0 [xq (some 250), xi v3, xi (v3 + 1)] xS0 I J P (xPi Q1) ∧ ∀ (z1 : Int32) (I1 : xIt) (J1 : xJt) (P1 : xPt), Q1 z1 I1 J1 P1 → G_RF_readName l V Q 43 [(0, xq (some 250)), (1, xi v1), (2, xi v2), (3, xi v3), (4, xi v4)] [xi z1] I1 J1 P1)))))) : G_RF_readName l V Q 19 [(0, xq (some 250)), (1, xi v1), (2, xi v2), (3, xi v3), (4, xi v4)] [] I J P := by
  refine xG_iload d_RF_readName_19 rfl ?_
  refine xG_if_eq (tgt := 166) d_RF_readName_21 (by decide) (fun c => ?_) (fun c => ?_)
  · have h := h.1 c
    refine xG_aload_n d_RF_readName_166 rfl rfl rfl ?_
    refine xG_geti d_RF_readName_167 xf_RF_198 rfl s0_250 ?_
    exact xG_ireturn d_RF_readName_170 rfl rfl ⟨rfl, hL, _, rfl, h⟩
  · have h := h.2 c
    refine xG_iload_n d_RF_readName_24 rfl rfl ?_
    refine xG_iconst (v := 1) d_RF_readName_25 rfl ?_
    refine xG_iadd d_RF_readName_26 ?_
    refine xG_iload_n d_RF_readName_27 rfl rfl ?_
    refine xG_icmp_ge (tgt := 42) d_RF_readName_28 (by decide) (fun c => ?_) (fun c => ?_)
    · have h := h.1 c
      refine xG_iconst (v := (-1)) d_RF_readName_42 rfl ?_
      exact h
    · have h := h.2 c
      refine xG_aload_n d_RF_readName_31 rfl rfl rfl ?_
      refine xG_iload_n d_RF_readName_32 rfl rfl ?_
      refine xG_iload_n d_RF_readName_33 rfl rfl ?_
      refine xG_iconst (v := 1) d_RF_readName_34 rfl ?_
      refine xG_iadd d_RF_readName_35 ?_
      obtain ⟨Q1, hM, h⟩ := h
      refine xG_callv (as := [xi v3, xi (v3 + 1)]) (rest := []) d_RF_readName_36 yv_RF_typeAt w5_19 rfl rfl rfl s0_250 (by decide) rfl hM ⟨by decide, by decide⟩ (Nat.le_of_ble_eq_true rfl) ⟨Nat.zero_le _, Nat.zero_le _⟩ (fun r S1 I1 J1 P1 hp => ?_)
      obtain ⟨rfl, hL1, z1, rfl, hq⟩ := hp
      have h := h z1 I1 J1 P1 hq
      refine xG_goto (tgt := 43) d_RF_readName_39 (by decide) ?_
      exact h
set_option maxRecDepth 20000 in
theorem b_RF_readName_43 {l : Launch} {V : xV} {Q : Int32 → xIt → xJt → xPt → Prop} {I : xIt} {J : xJt} {P : xPt} (hL : xL P) {v1 : Int32} {v2 : Int32} {v3 : Int32} {v4 : Int32} {u0 : Int32} (h : (((I 250 24) = 3 → Q (-1) I J P) ∧ (¬ (I 250 24) = 3 → ((u0 < 1 → Q (-1) I J P) ∧ (¬ u0 < 1 → ((3 < u0 → Q (-1) I J P) ∧ (¬ 3 < u0 → (vp_in (v3 + 1) 160 ∧ (((I 251 ((v3 + 1).toNatClampNeg)) = 61 → (∃ Q1 : Int32 → xIt → xJt → xPt → Prop, xMet l V y_RF_readPart 1 0 0 [xq (some 250), xi (v3 + 2), xi v2] xS0 I J P (xPi Q1) ∧ ∀ (z1 : Int32) (I1 : xIt) (J1 : xJt) (P1 : xPt), Q1 z1 I1 J1 P1 → ((0 ≤ z1 → (∃ Q2 : Int32 → xIt → xJt → xPt → Prop, xMet l V y_RF_formOf 3 0 0 [xq (some 250), xi u0, xi (I1 250 24)] xS0 I1 J1 P1 (xPi Q2) ∧ ∀ (z2 : Int32) (I2 : xIt) (J2 : xJt) (P2 : xPt), Q2 z2 I2 J2 P2 → G_RF_readName l V Q 107 [(0, xq (some 250)), (1, xi v1), (2, xi v2), (3, xi z1), (4, xi v4), (5, xi u0)] [xi z2] I2 J2 P2)) ∧ (¬ 0 ≤ z1 → G_RF_readName l V Q 107 [(0, xq (some 250)), (1, xi v1), (2, xi v2), (3, xi z1), (4, xi v4), (5, xi u0)] [xi (-1)] I1 J1 P1)))) ∧ (¬ (I 251 ((v3 + 1).toNatClampNeg)) = 61 → Q (-1) I J P)))))))))) : G_RF_readName l V Q 43 [(0, xq (some 250)), (1, xi v1), (2, xi v2), (3, xi v3), (4, xi v4)] [xi u0] I J P := by
  refine xG_istore (lv' := [(5, xi u0), (0, xq (some 250)), (1, xi v1), (2, xi v2), (3, xi v3), (4, xi v4)]) d_RF_readName_43 (Nat.le_of_ble_eq_true rfl) rfl ?_
  refine xG_aload_n d_RF_readName_45 rfl rfl rfl ?_
  refine xG_geti d_RF_readName_46 xf_RF_198 rfl s0_250 ?_
  refine xG_iconst (v := 3) d_RF_readName_49 rfl ?_
  refine xG_icmp_eq (tgt := 78) d_RF_readName_50 (by decide) (fun c => ?_) (fun c => ?_)
  · have h := h.1 c
    refine xG_iconst (v := (-1)) d_RF_readName_78 rfl ?_
    exact xG_ireturn d_RF_readName_79 rfl rfl ⟨rfl, hL, _, rfl, h⟩
  · have h := h.2 c
    refine xG_iload d_RF_readName_53 rfl ?_
    refine xG_iconst (v := 1) d_RF_readName_55 rfl ?_
    refine xG_icmp_lt (tgt := 78) d_RF_readName_56 (by decide) (fun c => ?_) (fun c => ?_)
    · have h := h.1 c
      refine xG_iconst (v := (-1)) d_RF_readName_78 rfl ?_
      exact xG_ireturn d_RF_readName_79 rfl rfl ⟨rfl, hL, _, rfl, h⟩
    · have h := h.2 c
      refine xG_iload d_RF_readName_59 rfl ?_
      refine xG_iconst (v := 3) d_RF_readName_61 rfl ?_
      refine xG_icmp_gt (tgt := 78) d_RF_readName_62 (by decide) (fun c => ?_) (fun c => ?_)
      · have h := h.1 c
        refine xG_iconst (v := (-1)) d_RF_readName_78 rfl ?_
        exact xG_ireturn d_RF_readName_79 rfl rfl ⟨rfl, hL, _, rfl, h⟩
      · have h := h.2 c
        refine xG_aload_n d_RF_readName_65 rfl rfl rfl ?_
        refine xG_getq d_RF_readName_66 xf_RF_7 rfl s0_250 ?_
        refine xG_iload_n d_RF_readName_69 rfl rfl ?_
        refine xG_iconst (v := 1) d_RF_readName_70 rfl ?_
        refine xG_iadd d_RF_readName_71 ?_
        refine xG_iald d_RF_readName_72 (lp_250_2 hL) s0_251 h.1 ?_
        have h := h.2
        refine xG_topi (x' := I 251 ((v3 + 1).toNatClampNeg)) (by first | rfl | exact xu_at | simp [xu]) ?_
        refine xG_bipush (v := 61) d_RF_readName_73 rfl ?_
        refine xG_icmp_eq (tgt := 80) d_RF_readName_75 (by decide) (fun c => ?_) (fun c => ?_)
        · have h := h.1 c
          refine xG_aload_n d_RF_readName_80 rfl rfl rfl ?_
          refine xG_iload_n d_RF_readName_81 rfl rfl ?_
          refine xG_iconst (v := 2) d_RF_readName_82 rfl ?_
          refine xG_iadd d_RF_readName_83 ?_
          refine xG_iload_n d_RF_readName_84 rfl rfl ?_
          obtain ⟨Q1, hM, h⟩ := h
          refine xG_callv (as := [xi (v3 + 2), xi v2]) (rest := []) d_RF_readName_85 yv_RF_readPart w5_26 rfl rfl rfl s0_250 (by decide) rfl hM ⟨by decide, by decide⟩ (Nat.le_of_ble_eq_true rfl) ⟨Nat.zero_le _, Nat.zero_le _⟩ (fun r S1 I1 J1 P1 hp => ?_)
          obtain ⟨rfl, hL1, z1, rfl, hq⟩ := hp
          have h := h z1 I1 J1 P1 hq
          refine xG_istore_n (lv' := [(3, xi z1), (5, xi u0), (0, xq (some 250)), (1, xi v1), (2, xi v2), (4, xi v4)]) d_RF_readName_88 rfl (Nat.le_of_ble_eq_true rfl) rfl ?_
          refine xG_iload_n d_RF_readName_89 rfl rfl ?_
          refine xG_if_ge (tgt := 97) d_RF_readName_90 (by decide) (fun c => ?_) (fun c => ?_)
          · have h := h.1 c
            refine xG_aload_n d_RF_readName_97 rfl rfl rfl ?_
            refine xG_iload d_RF_readName_98 rfl ?_
            refine xG_aload_n d_RF_readName_100 rfl rfl rfl ?_
            refine xG_geti d_RF_readName_101 xf_RF_198 rfl s0_250 ?_
            obtain ⟨Q2, hM, h⟩ := h
            refine xG_callv (as := [xi u0, xi (I1 250 24)]) (rest := []) d_RF_readName_104 yv_RF_formOf w5_30 rfl rfl rfl s0_250 (by decide) rfl hM ⟨by decide, by decide⟩ (Nat.le_of_ble_eq_true rfl) ⟨Nat.zero_le _, Nat.zero_le _⟩ (fun r S2 I2 J2 P2 hp => ?_)
            obtain ⟨rfl, hL2, z2, rfl, hq⟩ := hp
            have h := h z2 I2 J2 P2 hq
            refine xG_pick [2, 3, 4, 0, 5, 1] rfl ?_
            exact h
          · have h := h.2 c
            refine xG_iconst (v := (-1)) d_RF_readName_93 rfl ?_
            refine xG_goto (tgt := 107) d_RF_readName_94 (by decide) ?_
            refine xG_pick [2, 3, 4, 0, 5, 1] rfl ?_
            exact h
        · have h := h.2 c
          refine xG_iconst (v := (-1)) d_RF_readName_78 rfl ?_
          exact xG_ireturn d_RF_readName_79 rfl rfl ⟨rfl, hL, _, rfl, h⟩
set_option maxRecDepth 20000 in
theorem b_RF_readName_107 {l : Launch} {V : xV} {Q : Int32 → xIt → xJt → xPt → Prop} {I : xIt} {J : xJt} {P : xPt} (hL : xL P) {v1 : Int32} {v2 : Int32} {v3 : Int32} {v4 : Int32} {v5 : Int32} {u0 : Int32} (h : ((0 ≤ u0 → (vp_in (I 250 24) 3 ∧ (vp_in (I 250 24) 3 ∧ ((v2 ≤ v3 → G_RF_readName l V Q 19 [(0, xq (some 250)), (1, xi v1), (2, xi v2), (3, xi (v3 + 1)), (4, xi 0)] [] (xu (xu (xu I 256 ((I 250 24).toNatClampNeg) v5) 257 ((I 250 24).toNatClampNeg) u0) 250 24 ((I 250 24) + 1)) J P) ∧ (¬ v2 ≤ v3 → G_RF_readName l V Q 19 [(0, xq (some 250)), (1, xi v1), (2, xi v2), (3, xi (v3 + 1)), (4, xi 1)] [] (xu (xu (xu I 256 ((I 250 24).toNatClampNeg) v5) 257 ((I 250 24).toNatClampNeg) u0) 250 24 ((I 250 24) + 1)) J P))))) ∧ (¬ 0 ≤ u0 → Q (-1) I J P))) : G_RF_readName l V Q 107 [(0, xq (some 250)), (1, xi v1), (2, xi v2), (3, xi v3), (4, xi v4), (5, xi v5)] [xi u0] I J P := by
  refine xG_istore (lv' := [(6, xi u0), (0, xq (some 250)), (1, xi v1), (2, xi v2), (3, xi v3), (4, xi v4), (5, xi v5)]) d_RF_readName_107 (Nat.le_of_ble_eq_true rfl) rfl ?_
  refine xG_iload d_RF_readName_109 rfl ?_
  refine xG_if_ge (tgt := 116) d_RF_readName_111 (by decide) (fun c => ?_) (fun c => ?_)
  · have h := h.1 c
    refine xG_aload_n d_RF_readName_116 rfl rfl rfl ?_
    refine xG_getq d_RF_readName_117 xf_RF_25 rfl s0_250 ?_
    refine xG_aload_n d_RF_readName_120 rfl rfl rfl ?_
    refine xG_geti d_RF_readName_121 xf_RF_198 rfl s0_250 ?_
    refine xG_iload d_RF_readName_124 rfl ?_
    refine xG_iast d_RF_readName_126 (lp_250_25 hL) s0_256 h.1 ?_
    have h := h.2
    refine xG_aload_n d_RF_readName_127 rfl rfl rfl ?_
    refine xG_getq d_RF_readName_128 xf_RF_28 rfl s0_250 ?_
    refine xG_aload_n d_RF_readName_131 rfl rfl rfl ?_
    refine xG_geti d_RF_readName_132 xf_RF_198 rfl s0_250 ?_
    refine xG_topi (x' := I 250 24) (by first | rfl | exact xu_at | simp [xu]) ?_
    refine xG_iload d_RF_readName_135 rfl ?_
    refine xG_iast d_RF_readName_137 (lp_250_26 hL) s0_257 h.1 ?_
    have h := h.2
    refine xG_aload_n d_RF_readName_138 rfl rfl rfl ?_
    refine xG_dup d_RF_readName_139 rfl ?_
    refine xG_geti d_RF_readName_140 xf_RF_198 rfl s0_250 ?_
    refine xG_topi (x' := I 250 24) (by first | rfl | exact xu_at | simp [xu]) ?_
    refine xG_iconst (v := 1) d_RF_readName_143 rfl ?_
    refine xG_iadd d_RF_readName_144 ?_
    refine xG_puti d_RF_readName_145 xf_RF_198 (Or.inl rfl) rfl s0_250 rfl rfl ?_
    refine xG_iload_n d_RF_readName_148 rfl rfl ?_
    refine xG_iload_n d_RF_readName_149 rfl rfl ?_
    refine xG_icmp_ge (tgt := 157) d_RF_readName_150 (by decide) (fun c => ?_) (fun c => ?_)
    · have h := h.1 c
      refine xG_iconst (v := 0) d_RF_readName_157 rfl ?_
      refine xG_istore (lv' := [(4, xi 0), (6, xi u0), (0, xq (some 250)), (1, xi v1), (2, xi v2), (3, xi v3), (5, xi v5)]) d_RF_readName_158 (Nat.le_of_ble_eq_true rfl) rfl ?_
      refine xG_iinc (v := v3 + 1) (lv' := [(3, xi (v3 + 1)), (4, xi 0), (6, xi u0), (0, xq (some 250)), (1, xi v1), (2, xi v2), (5, xi v5)]) d_RF_readName_160 rfl rfl (Nat.le_of_ble_eq_true rfl) rfl ?_
      refine xG_goto (tgt := 19) d_RF_readName_163 (by decide) ?_
      refine xG_pick [3, 4, 5, 0, 1] rfl ?_
      exact h
    · have h := h.2 c
      refine xG_iconst (v := 1) d_RF_readName_153 rfl ?_
      refine xG_goto (tgt := 158) d_RF_readName_154 (by decide) ?_
      refine xG_istore (lv' := [(4, xi 1), (6, xi u0), (0, xq (some 250)), (1, xi v1), (2, xi v2), (3, xi v3), (5, xi v5)]) d_RF_readName_158 (Nat.le_of_ble_eq_true rfl) rfl ?_
      refine xG_iinc (v := v3 + 1) (lv' := [(3, xi (v3 + 1)), (4, xi 1), (6, xi u0), (0, xq (some 250)), (1, xi v1), (2, xi v2), (5, xi v5)]) d_RF_readName_160 rfl rfl (Nat.le_of_ble_eq_true rfl) rfl ?_
      refine xG_goto (tgt := 19) d_RF_readName_163 (by decide) ?_
      refine xG_pick [3, 4, 5, 0, 1] rfl ?_
      exact h
  · have h := h.2 c
    refine xG_iconst (v := (-1)) d_RF_readName_114 rfl ?_
    exact xG_ireturn d_RF_readName_115 rfl rfl ⟨rfl, hL, _, rfl, h⟩
theorem e_RF_readName {l : Launch} {V : xV} {Q : Int32 → xIt → xJt → xPt → Prop} {I : xIt} {J : xJt} {P : xPt} {v1 : Int32} {v2 : Int32} (h : G_RF_readName l V Q 0 [(0, xq (some 250)), (1, xi v1), (2, xi v2)] [] I J P) : xMet l V y_RF_readName 4 0 0 [xq (some 250), xi v1, xi v2] xS0 I J P (xPi Q) := xMet_of (by decide) (Nat.le_of_ble_eq_true rfl) h

abbrev G_RF_readPart (l : Launch) (V : xV) (Q : Int32 → xIt → xJt → xPt → Prop) (pc : Nat) (lv : List (Nat × xX)) (st : List xX) (I : xIt) (J : xJt) (P : xPt) : Prop := xG l V y_RF_readPart (xR 1 0 0) (xFn V y_RF_readPart (xR 1 0 0) (xPi Q)) pc lv st xS0 I J P (0, 0)
set_option maxRecDepth 20000 in
theorem b_RF_readPart_0 {l : Launch} {V : xV} {Q : Int32 → xIt → xJt → xPt → Prop} {I : xIt} {J : xJt} {P : xPt} (hL : xL P) {v1 : Int32} {v2 : Int32} (h : G_RF_readPart l V Q 7 [(0, xq (some 250)), (1, xi v1), (2, xi v2), (3, xi v1)] [] (xu I 250 21 0) J P) : G_RF_readPart l V Q 0 [(0, xq (some 250)), (1, xi v1), (2, xi v2)] [] I J P := by
  refine xG_iload_n d_RF_readPart_0 rfl rfl ?_
  refine xG_istore_n (lv' := [(3, xi v1), (0, xq (some 250)), (1, xi v1), (2, xi v2)]) d_RF_readPart_1 rfl (Nat.le_of_ble_eq_true rfl) rfl ?_
  refine xG_aload_n d_RF_readPart_2 rfl rfl rfl ?_
  refine xG_iconst (v := 0) d_RF_readPart_3 rfl ?_
  refine xG_puti d_RF_readPart_4 xf_RF_184 (Or.inl rfl) rfl s0_250 rfl rfl ?_
  refine xG_pick [1, 2, 3, 0] rfl ?_
  exact h
set_option maxRecDepth 20000 in
theorem b_RF_readPart_7 {l : Launch} {V : xV} {Q : Int32 → xIt → xJt → xPt → Prop} {I : xIt} {J : xJt} {P : xPt} (hL : xL P) {v1 : Int32} {v2 : Int32} {v3 : Int32} (h : ((v2 ≤ v3 → Q v3 I J P) ∧ (¬ v2 ≤ v3 → (vp_in v3 160 ∧ (((I 251 v3.toNatClampNeg) = 44 → Q v3 I J P) ∧ (¬ (I 251 v3.toNatClampNeg) = 44 → (vp_in v3 160 ∧ ((¬ (I 251 v3.toNatClampNeg) = 61 → (vp_in v3 160 ∧ ((¬ (I 251 v3.toNatClampNeg) = 92 → G_RF_readPart l V Q 90 [(0, xq (some 250)), (1, xi v1), (2, xi v2), (3, xi v3)] [] I J P) ∧ ((I 251 v3.toNatClampNeg) = 92 → ((v2 ≤ (v3 + 1) → Q (-1) I J P) ∧ (¬ v2 ≤ (v3 + 1) → (vp_in (v3 + 1) 160 ∧ (((I 251 ((v3 + 1).toNatClampNeg)) = 44 → G_RF_readPart l V Q 90 [(0, xq (some 250)), (1, xi v1), (2, xi v2), (3, xi (v3 + 1))] [] I J P) ∧ (¬ (I 251 ((v3 + 1).toNatClampNeg)) = 44 → (vp_in (v3 + 1) 160 ∧ (((I 251 ((v3 + 1).toNatClampNeg)) = 61 → G_RF_readPart l V Q 90 [(0, xq (some 250)), (1, xi v1), (2, xi v2), (3, xi (v3 + 1))] [] I J P) ∧ (¬ (I 251 ((v3 + 1).toNatClampNeg)) = 61 → (vp_in (v3 + 1) 160 ∧ (((I 251 ((v3 + 1).toNatClampNeg)) = 92 → G_RF_readPart l V Q 90 [(0, xq (some 250)), (1, xi v1), (2, xi v2), (3, xi (v3 + 1))] [] I J P) ∧ (¬ (I 251 ((v3 + 1).toNatClampNeg)) = 92 → Q (-1) I J P))))))))))))))) ∧ ((I 251 v3.toNatClampNeg) = 61 → Q (-1) I J P))))))))) : G_RF_readPart l V Q 7 [(0, xq (some 250)), (1, xi v1), (2, xi v2), (3, xi v3)] [] I J P := by
  refine xG_iload_n d_RF_readPart_7 rfl rfl ?_
  refine xG_iload_n d_RF_readPart_8 rfl rfl ?_
  refine xG_icmp_ge (tgt := 121) d_RF_readPart_9 (by decide) (fun c => ?_) (fun c => ?_)
  · have h := h.1 c
    refine xG_iload_n d_RF_readPart_121 rfl rfl ?_
    exact xG_ireturn d_RF_readPart_122 rfl rfl ⟨rfl, hL, _, rfl, h⟩
  · have h := h.2 c
    refine xG_aload_n d_RF_readPart_12 rfl rfl rfl ?_
    refine xG_getq d_RF_readPart_13 xf_RF_7 rfl s0_250 ?_
    refine xG_iload_n d_RF_readPart_16 rfl rfl ?_
    refine xG_iald d_RF_readPart_17 (lp_250_2 hL) s0_251 h.1 ?_
    have h := h.2
    refine xG_bipush (v := 44) d_RF_readPart_18 rfl ?_
    refine xG_icmp_eq (tgt := 121) d_RF_readPart_20 (by decide) (fun c => ?_) (fun c => ?_)
    · have h := h.1 c
      refine xG_iload_n d_RF_readPart_121 rfl rfl ?_
      exact xG_ireturn d_RF_readPart_122 rfl rfl ⟨rfl, hL, _, rfl, h⟩
    · have h := h.2 c
      refine xG_aload_n d_RF_readPart_23 rfl rfl rfl ?_
      refine xG_getq d_RF_readPart_24 xf_RF_7 rfl s0_250 ?_
      refine xG_iload_n d_RF_readPart_27 rfl rfl ?_
      refine xG_iald d_RF_readPart_28 (lp_250_2 hL) s0_251 h.1 ?_
      have h := h.2
      refine xG_bipush (v := 61) d_RF_readPart_29 rfl ?_
      refine xG_icmp_ne (tgt := 36) d_RF_readPart_31 (by decide) (fun c => ?_) (fun c => ?_)
      · have h := h.1 c
        refine xG_aload_n d_RF_readPart_36 rfl rfl rfl ?_
        refine xG_getq d_RF_readPart_37 xf_RF_7 rfl s0_250 ?_
        refine xG_iload_n d_RF_readPart_40 rfl rfl ?_
        refine xG_iald d_RF_readPart_41 (lp_250_2 hL) s0_251 h.1 ?_
        have h := h.2
        refine xG_bipush (v := 92) d_RF_readPart_42 rfl ?_
        refine xG_icmp_ne (tgt := 90) d_RF_readPart_44 (by decide) (fun c => ?_) (fun c => ?_)
        · have h := h.1 c
          exact h
        · have h := h.2 c
          refine xG_iinc (v := v3 + 1) (lv' := [(3, xi (v3 + 1)), (0, xq (some 250)), (1, xi v1), (2, xi v2)]) d_RF_readPart_47 rfl rfl (Nat.le_of_ble_eq_true rfl) rfl ?_
          refine xG_iload_n d_RF_readPart_50 rfl rfl ?_
          refine xG_iload_n d_RF_readPart_51 rfl rfl ?_
          refine xG_icmp_ge (tgt := 88) d_RF_readPart_52 (by decide) (fun c => ?_) (fun c => ?_)
          · have h := h.1 c
            refine xG_iconst (v := (-1)) d_RF_readPart_88 rfl ?_
            exact xG_ireturn d_RF_readPart_89 rfl rfl ⟨rfl, hL, _, rfl, h⟩
          · have h := h.2 c
            refine xG_aload_n d_RF_readPart_55 rfl rfl rfl ?_
            refine xG_getq d_RF_readPart_56 xf_RF_7 rfl s0_250 ?_
            refine xG_iload_n d_RF_readPart_59 rfl rfl ?_
            refine xG_iald d_RF_readPart_60 (lp_250_2 hL) s0_251 h.1 ?_
            have h := h.2
            refine xG_topi (x' := I 251 ((v3 + 1).toNatClampNeg)) (by first | rfl | exact xu_at | simp [xu]) ?_
            refine xG_bipush (v := 44) d_RF_readPart_61 rfl ?_
            refine xG_icmp_eq (tgt := 90) d_RF_readPart_63 (by decide) (fun c => ?_) (fun c => ?_)
            · have h := h.1 c
              refine xG_pick [1, 2, 3, 0] rfl ?_
              exact h
            · have h := h.2 c
              refine xG_aload_n d_RF_readPart_66 rfl rfl rfl ?_
              refine xG_getq d_RF_readPart_67 xf_RF_7 rfl s0_250 ?_
              refine xG_iload_n d_RF_readPart_70 rfl rfl ?_
              refine xG_iald d_RF_readPart_71 (lp_250_2 hL) s0_251 h.1 ?_
              have h := h.2
              refine xG_topi (x' := I 251 ((v3 + 1).toNatClampNeg)) (by first | rfl | exact xu_at | simp [xu]) ?_
              refine xG_bipush (v := 61) d_RF_readPart_72 rfl ?_
              refine xG_icmp_eq (tgt := 90) d_RF_readPart_74 (by decide) (fun c => ?_) (fun c => ?_)
              · have h := h.1 c
                refine xG_pick [1, 2, 3, 0] rfl ?_
                exact h
              · have h := h.2 c
                refine xG_aload_n d_RF_readPart_77 rfl rfl rfl ?_
                refine xG_getq d_RF_readPart_78 xf_RF_7 rfl s0_250 ?_
                refine xG_iload_n d_RF_readPart_81 rfl rfl ?_
                refine xG_iald d_RF_readPart_82 (lp_250_2 hL) s0_251 h.1 ?_
                have h := h.2
                refine xG_topi (x' := I 251 ((v3 + 1).toNatClampNeg)) (by first | rfl | exact xu_at | simp [xu]) ?_
                refine xG_bipush (v := 92) d_RF_readPart_83 rfl ?_
                refine xG_icmp_eq (tgt := 90) d_RF_readPart_85 (by decide) (fun c => ?_) (fun c => ?_)
                · have h := h.1 c
                  refine xG_pick [1, 2, 3, 0] rfl ?_
                  exact h
                · have h := h.2 c
                  refine xG_iconst (v := (-1)) d_RF_readPart_88 rfl ?_
                  exact xG_ireturn d_RF_readPart_89 rfl rfl ⟨rfl, hL, _, rfl, h⟩
      · have h := h.2 c
        refine xG_iconst (v := (-1)) d_RF_readPart_34 rfl ?_
        exact xG_ireturn d_RF_readPart_35 rfl rfl ⟨rfl, hL, _, rfl, h⟩
set_option maxRecDepth 20000 in
theorem b_RF_readPart_90 {l : Launch} {V : xV} {Q : Int32 → xIt → xJt → xPt → Prop} {I : xIt} {J : xJt} {P : xPt} (hL : xL P) {v1 : Int32} {v2 : Int32} {v3 : Int32} (h : (vp_in v3 160 ∧ (vp_in (I 250 21) 32 ∧ G_RF_readPart l V Q 7 [(0, xq (some 250)), (1, xi v1), (2, xi v2), (3, xi (v3 + 1))] [] (xu (xu I 254 ((I 250 21).toNatClampNeg) (I 251 v3.toNatClampNeg)) 250 21 ((I 250 21) + 1)) J P))) : G_RF_readPart l V Q 90 [(0, xq (some 250)), (1, xi v1), (2, xi v2), (3, xi v3)] [] I J P := by
  refine xG_aload_n d_RF_readPart_90 rfl rfl rfl ?_
  refine xG_getq d_RF_readPart_91 xf_RF_19 rfl s0_250 ?_
  refine xG_aload_n d_RF_readPart_94 rfl rfl rfl ?_
  refine xG_geti d_RF_readPart_95 xf_RF_184 rfl s0_250 ?_
  refine xG_aload_n d_RF_readPart_98 rfl rfl rfl ?_
  refine xG_getq d_RF_readPart_99 xf_RF_7 rfl s0_250 ?_
  refine xG_iload_n d_RF_readPart_102 rfl rfl ?_
  refine xG_iald d_RF_readPart_103 (lp_250_2 hL) s0_251 h.1 ?_
  have h := h.2
  refine xG_iast d_RF_readPart_104 (lp_250_22 hL) s0_254 h.1 ?_
  have h := h.2
  refine xG_aload_n d_RF_readPart_105 rfl rfl rfl ?_
  refine xG_dup d_RF_readPart_106 rfl ?_
  refine xG_geti d_RF_readPart_107 xf_RF_184 rfl s0_250 ?_
  refine xG_topi (x' := I 250 21) (by first | rfl | exact xu_at | simp [xu]) ?_
  refine xG_iconst (v := 1) d_RF_readPart_110 rfl ?_
  refine xG_iadd d_RF_readPart_111 ?_
  refine xG_puti d_RF_readPart_112 xf_RF_184 (Or.inl rfl) rfl s0_250 rfl rfl ?_
  refine xG_iinc (v := v3 + 1) (lv' := [(3, xi (v3 + 1)), (0, xq (some 250)), (1, xi v1), (2, xi v2)]) d_RF_readPart_115 rfl rfl (Nat.le_of_ble_eq_true rfl) rfl ?_
  refine xG_goto (tgt := 7) d_RF_readPart_118 (by decide) ?_
  refine xG_pick [1, 2, 3, 0] rfl ?_
  exact h
theorem e_RF_readPart {l : Launch} {V : xV} {Q : Int32 → xIt → xJt → xPt → Prop} {I : xIt} {J : xJt} {P : xPt} {v1 : Int32} {v2 : Int32} (h : G_RF_readPart l V Q 0 [(0, xq (some 250)), (1, xi v1), (2, xi v2)] [] I J P) : xMet l V y_RF_readPart 1 0 0 [xq (some 250), xi v1, xi v2] xS0 I J P (xPi Q) := xMet_of (by decide) (Nat.le_of_ble_eq_true rfl) h

abbrev G_RF_isPart (l : Launch) (V : xV) (Q : Int32 → xIt → xJt → xPt → Prop) (pc : Nat) (lv : List (Nat × xX)) (st : List xX) (I : xIt) (J : xJt) (P : xPt) : Prop := xG l V y_RF_isPart (xR 1 0 0) (xFn V y_RF_isPart (xR 1 0 0) (xPi Q)) pc lv st xS0 I J P (0, 0)
set_option maxRecDepth 20000 in
theorem b_RF_isPart_0 {l : Launch} {V : xV} {Q : Int32 → xIt → xJt → xPt → Prop} {I : xIt} {J : xJt} {P : xPt} (hL : xL P) {v1 : Int32} {v2 : Int32} (h : (vp_in v1 13 ∧ (vp_in v2 3 ∧ ((¬ (I 264 v1.toNatClampNeg) = (I 256 v2.toNatClampNeg) → G_RF_isPart l V Q 39 [(0, xq (some 250)), (1, xi v1), (2, xi v2), (3, xi 0), (4, xi 0)] [] I J P) ∧ ((I 264 v1.toNatClampNeg) = (I 256 v2.toNatClampNeg) → (vp_in v1 13 ∧ (vp_in v2 3 ∧ ((¬ (I 265 v1.toNatClampNeg) = (I 257 v2.toNatClampNeg) → G_RF_isPart l V Q 39 [(0, xq (some 250)), (1, xi v1), (2, xi v2), (3, xi 0), (4, xi 0)] [] I J P) ∧ ((I 265 v1.toNatClampNeg) = (I 257 v2.toNatClampNeg) → G_RF_isPart l V Q 39 [(0, xq (some 250)), (1, xi v1), (2, xi v2), (3, xi 1), (4, xi 0)] [] I J P))))))))) : G_RF_isPart l V Q 0 [(0, xq (some 250)), (1, xi v1), (2, xi v2)] [] I J P := by
  refine xG_aload_n d_RF_isPart_0 rfl rfl rfl ?_
  refine xG_getq d_RF_isPart_1 xf_RF_49 rfl s0_250 ?_
  refine xG_iload_n d_RF_isPart_4 rfl rfl ?_
  refine xG_iald d_RF_isPart_5 (lp_250_34 hL) s0_264 h.1 ?_
  have h := h.2
  refine xG_aload_n d_RF_isPart_6 rfl rfl rfl ?_
  refine xG_getq d_RF_isPart_7 xf_RF_25 rfl s0_250 ?_
  refine xG_iload_n d_RF_isPart_10 rfl rfl ?_
  refine xG_iald d_RF_isPart_11 (lp_250_25 hL) s0_256 h.1 ?_
  have h := h.2
  refine xG_icmp_ne (tgt := 34) d_RF_isPart_12 (by decide) (fun c => ?_) (fun c => ?_)
  · have h := h.1 c
    refine xG_iconst (v := 0) d_RF_isPart_34 rfl ?_
    refine xG_istore_n (lv' := [(3, xi 0), (0, xq (some 250)), (1, xi v1), (2, xi v2)]) d_RF_isPart_35 rfl (Nat.le_of_ble_eq_true rfl) rfl ?_
    refine xG_iconst (v := 0) d_RF_isPart_36 rfl ?_
    refine xG_istore (lv' := [(4, xi 0), (3, xi 0), (0, xq (some 250)), (1, xi v1), (2, xi v2)]) d_RF_isPart_37 (Nat.le_of_ble_eq_true rfl) rfl ?_
    refine xG_pick [2, 3, 4, 1, 0] rfl ?_
    exact h
  · have h := h.2 c
    refine xG_aload_n d_RF_isPart_15 rfl rfl rfl ?_
    refine xG_getq d_RF_isPart_16 xf_RF_52 rfl s0_250 ?_
    refine xG_iload_n d_RF_isPart_19 rfl rfl ?_
    refine xG_iald d_RF_isPart_20 (lp_250_35 hL) s0_265 h.1 ?_
    have h := h.2
    refine xG_aload_n d_RF_isPart_21 rfl rfl rfl ?_
    refine xG_getq d_RF_isPart_22 xf_RF_28 rfl s0_250 ?_
    refine xG_iload_n d_RF_isPart_25 rfl rfl ?_
    refine xG_iald d_RF_isPart_26 (lp_250_26 hL) s0_257 h.1 ?_
    have h := h.2
    refine xG_icmp_ne (tgt := 34) d_RF_isPart_27 (by decide) (fun c => ?_) (fun c => ?_)
    · have h := h.1 c
      refine xG_iconst (v := 0) d_RF_isPart_34 rfl ?_
      refine xG_istore_n (lv' := [(3, xi 0), (0, xq (some 250)), (1, xi v1), (2, xi v2)]) d_RF_isPart_35 rfl (Nat.le_of_ble_eq_true rfl) rfl ?_
      refine xG_iconst (v := 0) d_RF_isPart_36 rfl ?_
      refine xG_istore (lv' := [(4, xi 0), (3, xi 0), (0, xq (some 250)), (1, xi v1), (2, xi v2)]) d_RF_isPart_37 (Nat.le_of_ble_eq_true rfl) rfl ?_
      refine xG_pick [2, 3, 4, 1, 0] rfl ?_
      exact h
    · have h := h.2 c
      refine xG_iconst (v := 1) d_RF_isPart_30 rfl ?_
      refine xG_goto (tgt := 35) d_RF_isPart_31 (by decide) ?_
      refine xG_istore_n (lv' := [(3, xi 1), (0, xq (some 250)), (1, xi v1), (2, xi v2)]) d_RF_isPart_35 rfl (Nat.le_of_ble_eq_true rfl) rfl ?_
      refine xG_iconst (v := 0) d_RF_isPart_36 rfl ?_
      refine xG_istore (lv' := [(4, xi 0), (3, xi 1), (0, xq (some 250)), (1, xi v1), (2, xi v2)]) d_RF_isPart_37 (Nat.le_of_ble_eq_true rfl) rfl ?_
      refine xG_pick [2, 3, 4, 1, 0] rfl ?_
      exact h
set_option maxRecDepth 20000 in
theorem b_RF_isPart_39 {l : Launch} {V : xV} {Q : Int32 → xIt → xJt → xPt → Prop} {I : xIt} {J : xJt} {P : xPt} (hL : xL P) {v1 : Int32} {v2 : Int32} {v3 : Int32} {v4 : Int32} (h : (vp_in v1 13 ∧ (((I 265 v1.toNatClampNeg) ≤ v4 → ((v3 = 0 ∨ v3 = 1) ∧ Q v3 I J P)) ∧ (¬ (I 265 v1.toNatClampNeg) ≤ v4 → ((v3 = 0 → ((v3 = 0 ∨ v3 = 1) ∧ Q v3 I J P)) ∧ (¬ v3 = 0 → (vp_in ((6 * v1) + v4) 78 ∧ (vp_in ((8 * v2) + v4) 40 ∧ ((¬ (I 266 (((6 * v1) + v4).toNatClampNeg)) = (I 255 (((8 * v2) + v4).toNatClampNeg)) → G_RF_isPart l V Q 39 [(0, xq (some 250)), (1, xi v1), (2, xi v2), (3, xi 0), (4, xi (v4 + 1))] [] I J P) ∧ ((I 266 (((6 * v1) + v4).toNatClampNeg)) = (I 255 (((8 * v2) + v4).toNatClampNeg)) → G_RF_isPart l V Q 39 [(0, xq (some 250)), (1, xi v1), (2, xi v2), (3, xi 1), (4, xi (v4 + 1))] [] I J P)))))))))) : G_RF_isPart l V Q 39 [(0, xq (some 250)), (1, xi v1), (2, xi v2), (3, xi v3), (4, xi v4)] [] I J P := by
  refine xG_iload d_RF_isPart_39 rfl ?_
  refine xG_aload_n d_RF_isPart_41 rfl rfl rfl ?_
  refine xG_getq d_RF_isPart_42 xf_RF_52 rfl s0_250 ?_
  refine xG_iload_n d_RF_isPart_45 rfl rfl ?_
  refine xG_iald d_RF_isPart_46 (lp_250_35 hL) s0_265 h.1 ?_
  have h := h.2
  refine xG_icmp_ge (tgt := 93) d_RF_isPart_47 (by decide) (fun c => ?_) (fun c => ?_)
  · have h := h.1 c
    refine xG_iload_n d_RF_isPart_93 rfl rfl ?_
    exact xG_ireturn d_RF_isPart_94 rfl (x_nb h.1) ⟨rfl, hL, _, rfl, h.2⟩
  · have h := h.2 c
    refine xG_iload_n d_RF_isPart_50 rfl rfl ?_
    refine xG_if_eq (tgt := 93) d_RF_isPart_51 (by decide) (fun c => ?_) (fun c => ?_)
    · have h := h.1 c
      refine xG_iload_n d_RF_isPart_93 rfl rfl ?_
      exact xG_ireturn d_RF_isPart_94 rfl (x_nb h.1) ⟨rfl, hL, _, rfl, h.2⟩
    · have h := h.2 c
      refine xG_aload_n d_RF_isPart_54 rfl rfl rfl ?_
      refine xG_getq d_RF_isPart_55 xf_RF_55 rfl s0_250 ?_
      refine xG_bipush (v := 6) d_RF_isPart_58 rfl ?_
      refine xG_iload_n d_RF_isPart_60 rfl rfl ?_
      refine xG_imul d_RF_isPart_61 ?_
      refine xG_iload d_RF_isPart_62 rfl ?_
      refine xG_iadd d_RF_isPart_64 ?_
      refine xG_iald d_RF_isPart_65 (lp_250_36 hL) s0_266 h.1 ?_
      have h := h.2
      refine xG_topi (x' := I 266 (((6 * v1) + v4).toNatClampNeg)) (by first | rfl | exact xu_at | simp [xu]) ?_
      refine xG_aload_n d_RF_isPart_66 rfl rfl rfl ?_
      refine xG_getq d_RF_isPart_67 xf_RF_22 rfl s0_250 ?_
      refine xG_bipush (v := 8) d_RF_isPart_70 rfl ?_
      refine xG_iload_n d_RF_isPart_72 rfl rfl ?_
      refine xG_imul d_RF_isPart_73 ?_
      refine xG_iload d_RF_isPart_74 rfl ?_
      refine xG_iadd d_RF_isPart_76 ?_
      refine xG_iald d_RF_isPart_77 (lp_250_23 hL) s0_255 h.1 ?_
      have h := h.2
      refine xG_topi (x' := I 255 (((8 * v2) + v4).toNatClampNeg)) (by first | rfl | exact xu_at | simp [xu]) ?_
      refine xG_icmp_ne (tgt := 85) d_RF_isPart_78 (by decide) (fun c => ?_) (fun c => ?_)
      · have h := h.1 c
        refine xG_iconst (v := 0) d_RF_isPart_85 rfl ?_
        refine xG_istore_n (lv' := [(3, xi 0), (0, xq (some 250)), (1, xi v1), (2, xi v2), (4, xi v4)]) d_RF_isPart_86 rfl (Nat.le_of_ble_eq_true rfl) rfl ?_
        refine xG_iinc (v := v4 + 1) (lv' := [(4, xi (v4 + 1)), (3, xi 0), (0, xq (some 250)), (1, xi v1), (2, xi v2)]) d_RF_isPart_87 rfl rfl (Nat.le_of_ble_eq_true rfl) rfl ?_
        refine xG_goto (tgt := 39) d_RF_isPart_90 (by decide) ?_
        refine xG_pick [2, 3, 4, 1, 0] rfl ?_
        exact h
      · have h := h.2 c
        refine xG_iconst (v := 1) d_RF_isPart_81 rfl ?_
        refine xG_goto (tgt := 86) d_RF_isPart_82 (by decide) ?_
        refine xG_istore_n (lv' := [(3, xi 1), (0, xq (some 250)), (1, xi v1), (2, xi v2), (4, xi v4)]) d_RF_isPart_86 rfl (Nat.le_of_ble_eq_true rfl) rfl ?_
        refine xG_iinc (v := v4 + 1) (lv' := [(4, xi (v4 + 1)), (3, xi 1), (0, xq (some 250)), (1, xi v1), (2, xi v2)]) d_RF_isPart_87 rfl rfl (Nat.le_of_ble_eq_true rfl) rfl ?_
        refine xG_goto (tgt := 39) d_RF_isPart_90 (by decide) ?_
        refine xG_pick [2, 3, 4, 1, 0] rfl ?_
        exact h
theorem e_RF_isPart {l : Launch} {V : xV} {Q : Int32 → xIt → xJt → xPt → Prop} {I : xIt} {J : xJt} {P : xPt} {v1 : Int32} {v2 : Int32} (h : G_RF_isPart l V Q 0 [(0, xq (some 250)), (1, xi v1), (2, xi v2)] [] I J P) : xMet l V y_RF_isPart 1 0 0 [xq (some 250), xi v1, xi v2] xS0 I J P (xPi Q) := xMet_of (by decide) (Nat.le_of_ble_eq_true rfl) h

abbrev G_RF_entryNamed (l : Launch) (V : xV) (Q : Int32 → xIt → xJt → xPt → Prop) (pc : Nat) (lv : List (Nat × xX)) (st : List xX) (I : xIt) (J : xJt) (P : xPt) : Prop := xG l V y_RF_entryNamed (xR 2 0 0) (xFn V y_RF_entryNamed (xR 2 0 0) (xPi Q)) pc lv st xS0 I J P (0, 0)
set_option maxRecDepth 20000 in
theorem b_RF_entryNamed_0 {l : Launch} {V : xV} {Q : Int32 → xIt → xJt → xPt → Prop} {I : xIt} {J : xJt} {P : xPt} (hL : xL P) {v1 : Int32} (h : ((¬ (I 250 24) = v1 → G_RF_entryNamed l V Q 12 [(0, xq (some 250)), (1, xi v1), (2, xi 0)] [] I J P) ∧ ((I 250 24) = v1 → Q (-1) I J P))) : G_RF_entryNamed l V Q 0 [(0, xq (some 250)), (1, xi v1)] [] I J P := by
  refine xG_aload_n d_RF_entryNamed_0 rfl rfl rfl ?_
  refine xG_geti d_RF_entryNamed_1 xf_RF_198 rfl s0_250 ?_
  refine xG_iload_n d_RF_entryNamed_4 rfl rfl ?_
  refine xG_icmp_ne (tgt := 10) d_RF_entryNamed_5 (by decide) (fun c => ?_) (fun c => ?_)
  · have h := h.1 c
    refine xG_iconst (v := 0) d_RF_entryNamed_10 rfl ?_
    refine xG_istore_n (lv' := [(2, xi 0), (0, xq (some 250)), (1, xi v1)]) d_RF_entryNamed_11 rfl (Nat.le_of_ble_eq_true rfl) rfl ?_
    refine xG_pick [1, 2, 0] rfl ?_
    exact h
  · have h := h.2 c
    refine xG_iconst (v := (-1)) d_RF_entryNamed_8 rfl ?_
    exact xG_ireturn d_RF_entryNamed_9 rfl rfl ⟨rfl, hL, _, rfl, h⟩
set_option maxRecDepth 20000 in
theorem b_RF_entryNamed_12 {l : Launch} {V : xV} {Q : Int32 → xIt → xJt → xPt → Prop} {I : xIt} {J : xJt} {P : xPt} (hL : xL P) {v1 : Int32} {v2 : Int32} (h : (((I 250 27) ≤ v2 → Q (-2) I J P) ∧ (¬ (I 250 27) ≤ v2 → G_RF_entryNamed l V Q 28 [(0, xq (some 250)), (1, xi v1), (2, xi v2), (3, xi v2), (4, xi 1), (5, xi v1)] [] I J P))) : G_RF_entryNamed l V Q 12 [(0, xq (some 250)), (1, xi v1), (2, xi v2)] [] I J P := by
  refine xG_iload_n d_RF_entryNamed_12 rfl rfl ?_
  refine xG_aload_n d_RF_entryNamed_13 rfl rfl rfl ?_
  refine xG_geti d_RF_entryNamed_14 xf_RF_211 rfl s0_250 ?_
  refine xG_icmp_ge (tgt := 103) d_RF_entryNamed_17 (by decide) (fun c => ?_) (fun c => ?_)
  · have h := h.1 c
    refine xG_bipush (v := (-2)) d_RF_entryNamed_103 rfl ?_
    exact xG_ireturn d_RF_entryNamed_105 rfl rfl ⟨rfl, hL, _, rfl, h⟩
  · have h := h.2 c
    refine xG_iload_n d_RF_entryNamed_20 rfl rfl ?_
    refine xG_istore_n (lv' := [(3, xi v2), (0, xq (some 250)), (1, xi v1), (2, xi v2)]) d_RF_entryNamed_21 rfl (Nat.le_of_ble_eq_true rfl) rfl ?_
    refine xG_iconst (v := 1) d_RF_entryNamed_22 rfl ?_
    refine xG_istore (lv' := [(4, xi 1), (3, xi v2), (0, xq (some 250)), (1, xi v1), (2, xi v2)]) d_RF_entryNamed_23 (Nat.le_of_ble_eq_true rfl) rfl ?_
    refine xG_iload_n d_RF_entryNamed_25 rfl rfl ?_
    refine xG_istore (lv' := [(5, xi v1), (4, xi 1), (3, xi v2), (0, xq (some 250)), (1, xi v1), (2, xi v2)]) d_RF_entryNamed_26 (Nat.le_of_ble_eq_true rfl) rfl ?_
    refine xG_pick [3, 4, 5, 2, 1, 0] rfl ?_
    exact h
set_option maxRecDepth 20000 in
theorem b_RF_entryNamed_28 {l : Launch} {V : xV} {Q : Int32 → xIt → xJt → xPt → Prop} {I : xIt} {J : xJt} {P : xPt} (hL : xL P) {v1 : Int32} {v2 : Int32} {v3 : Int32} {v4 : Int32} {v5 : Int32} (h : (((I 250 24) ≤ v5 → ((v4 = 0 → G_RF_entryNamed l V Q 12 [(0, xq (some 250)), (1, xi v1), (2, xi (v2 + 1))] [] I J P) ∧ (¬ v4 = 0 → ((¬ v3 = (-1) → G_RF_entryNamed l V Q 12 [(0, xq (some 250)), (1, xi v1), (2, xi (v2 + 1))] [] I J P) ∧ (v3 = (-1) → Q v2 I J P))))) ∧ (¬ (I 250 24) ≤ v5 → ((v4 = 0 → ((v4 = 0 → G_RF_entryNamed l V Q 12 [(0, xq (some 250)), (1, xi v1), (2, xi (v2 + 1))] [] I J P) ∧ (¬ v4 = 0 → ((¬ v3 = (-1) → G_RF_entryNamed l V Q 12 [(0, xq (some 250)), (1, xi v1), (2, xi (v2 + 1))] [] I J P) ∧ (v3 = (-1) → Q v2 I J P))))) ∧ (¬ v4 = 0 → ((v3 < 0 → G_RF_entryNamed l V Q 61 [(0, xq (some 250)), (1, xi v1), (2, xi v2), (3, xi v3), (4, xi v4), (5, xi v5)] [xi 0] I J P) ∧ (¬ v3 < 0 → (∃ Q1 : Int32 → xIt → xJt → xPt → Prop, xMet l V y_RF_isPart 1 0 0 [xq (some 250), xi v3, xi v5] xS0 I J P (xPi Q1) ∧ ∀ (z1 : Int32) (I1 : xIt) (J1 : xJt) (P1 : xPt), Q1 z1 I1 J1 P1 → ((z1 = 0 → G_RF_entryNamed l V Q 61 [(0, xq (some 250)), (1, xi v1), (2, xi v2), (3, xi v3), (4, xi v4), (5, xi v5)] [xi 0] I1 J1 P1) ∧ (¬ z1 = 0 → G_RF_entryNamed l V Q 61 [(0, xq (some 250)), (1, xi v1), (2, xi v2), (3, xi v3), (4, xi v4), (5, xi v5)] [xi 1] I1 J1 P1)))))))))) : G_RF_entryNamed l V Q 28 [(0, xq (some 250)), (1, xi v1), (2, xi v2), (3, xi v3), (4, xi v4), (5, xi v5)] [] I J P := by
  refine xG_iload d_RF_entryNamed_28 rfl ?_
  refine xG_aload_n d_RF_entryNamed_30 rfl rfl rfl ?_
  refine xG_geti d_RF_entryNamed_31 xf_RF_198 rfl s0_250 ?_
  refine xG_icmp_ge (tgt := 85) d_RF_entryNamed_34 (by decide) (fun c => ?_) (fun c => ?_)
  · have h := h.1 c
    refine xG_iload d_RF_entryNamed_85 rfl ?_
    refine xG_if_eq (tgt := 97) d_RF_entryNamed_87 (by decide) (fun c => ?_) (fun c => ?_)
    · have h := h.1 c
      refine xG_iinc (v := v2 + 1) (lv' := [(2, xi (v2 + 1)), (0, xq (some 250)), (1, xi v1), (3, xi v3), (4, xi v4), (5, xi v5)]) d_RF_entryNamed_97 rfl rfl (Nat.le_of_ble_eq_true rfl) rfl ?_
      refine xG_goto (tgt := 12) d_RF_entryNamed_100 (by decide) ?_
      refine xG_pick [1, 2, 0] rfl ?_
      exact h
    · have h := h.2 c
      refine xG_iload_n d_RF_entryNamed_90 rfl rfl ?_
      refine xG_iconst (v := (-1)) d_RF_entryNamed_91 rfl ?_
      refine xG_icmp_ne (tgt := 97) d_RF_entryNamed_92 (by decide) (fun c => ?_) (fun c => ?_)
      · have h := h.1 c
        refine xG_iinc (v := v2 + 1) (lv' := [(2, xi (v2 + 1)), (0, xq (some 250)), (1, xi v1), (3, xi v3), (4, xi v4), (5, xi v5)]) d_RF_entryNamed_97 rfl rfl (Nat.le_of_ble_eq_true rfl) rfl ?_
        refine xG_goto (tgt := 12) d_RF_entryNamed_100 (by decide) ?_
        refine xG_pick [1, 2, 0] rfl ?_
        exact h
      · have h := h.2 c
        refine xG_iload_n d_RF_entryNamed_95 rfl rfl ?_
        exact xG_ireturn d_RF_entryNamed_96 rfl rfl ⟨rfl, hL, _, rfl, h⟩
  · have h := h.2 c
    refine xG_iload d_RF_entryNamed_37 rfl ?_
    refine xG_if_eq (tgt := 85) d_RF_entryNamed_39 (by decide) (fun c => ?_) (fun c => ?_)
    · have h := h.1 c
      refine xG_iload d_RF_entryNamed_85 rfl ?_
      refine xG_if_eq (tgt := 97) d_RF_entryNamed_87 (by decide) (fun c => ?_) (fun c => ?_)
      · have h := h.1 c
        refine xG_iinc (v := v2 + 1) (lv' := [(2, xi (v2 + 1)), (0, xq (some 250)), (1, xi v1), (3, xi v3), (4, xi v4), (5, xi v5)]) d_RF_entryNamed_97 rfl rfl (Nat.le_of_ble_eq_true rfl) rfl ?_
        refine xG_goto (tgt := 12) d_RF_entryNamed_100 (by decide) ?_
        refine xG_pick [1, 2, 0] rfl ?_
        exact h
      · have h := h.2 c
        refine xG_iload_n d_RF_entryNamed_90 rfl rfl ?_
        refine xG_iconst (v := (-1)) d_RF_entryNamed_91 rfl ?_
        refine xG_icmp_ne (tgt := 97) d_RF_entryNamed_92 (by decide) (fun c => ?_) (fun c => ?_)
        · have h := h.1 c
          refine xG_iinc (v := v2 + 1) (lv' := [(2, xi (v2 + 1)), (0, xq (some 250)), (1, xi v1), (3, xi v3), (4, xi v4), (5, xi v5)]) d_RF_entryNamed_97 rfl rfl (Nat.le_of_ble_eq_true rfl) rfl ?_
          refine xG_goto (tgt := 12) d_RF_entryNamed_100 (by decide) ?_
          refine xG_pick [1, 2, 0] rfl ?_
          exact h
        · have h := h.2 c
          refine xG_iload_n d_RF_entryNamed_95 rfl rfl ?_
          exact xG_ireturn d_RF_entryNamed_96 rfl rfl ⟨rfl, hL, _, rfl, h⟩
    · have h := h.2 c
      refine xG_iload_n d_RF_entryNamed_42 rfl rfl ?_
      refine xG_if_lt (tgt := 60) d_RF_entryNamed_43 (by decide) (fun c => ?_) (fun c => ?_)
      · have h := h.1 c
        refine xG_iconst (v := 0) d_RF_entryNamed_60 rfl ?_
        exact h
      · have h := h.2 c
        refine xG_aload_n d_RF_entryNamed_46 rfl rfl rfl ?_
        refine xG_iload_n d_RF_entryNamed_47 rfl rfl ?_
        refine xG_iload d_RF_entryNamed_48 rfl ?_
        obtain ⟨Q1, hM, h⟩ := h
        refine xG_callv (as := [xi v3, xi v5]) (rest := []) d_RF_entryNamed_50 yv_RF_isPart w5_46 rfl rfl rfl s0_250 (by decide) rfl hM ⟨by decide, by decide⟩ (Nat.le_of_ble_eq_true rfl) ⟨Nat.zero_le _, Nat.zero_le _⟩ (fun r S1 I1 J1 P1 hp => ?_)
        obtain ⟨rfl, hL1, z1, rfl, hq⟩ := hp
        have h := h z1 I1 J1 P1 hq
        refine xG_if_eq (tgt := 60) d_RF_entryNamed_53 (by decide) (fun c => ?_) (fun c => ?_)
        · have h := h.1 c
          refine xG_iconst (v := 0) d_RF_entryNamed_60 rfl ?_
          exact h
        · have h := h.2 c
          refine xG_iconst (v := 1) d_RF_entryNamed_56 rfl ?_
          refine xG_goto (tgt := 61) d_RF_entryNamed_57 (by decide) ?_
          exact h
set_option maxRecDepth 20000 in
theorem b_RF_entryNamed_61 {l : Launch} {V : xV} {Q : Int32 → xIt → xJt → xPt → Prop} {I : xIt} {J : xJt} {P : xPt} (hL : xL P) {v1 : Int32} {v2 : Int32} {v3 : Int32} {v4 : Int32} {v5 : Int32} {u0 : Int32} (h : ((u0 = 0 → G_RF_entryNamed l V Q 28 [(0, xq (some 250)), (1, xi v1), (2, xi v2), (3, xi v3), (4, xi u0), (5, xi (v5 + 1))] [] I J P) ∧ (¬ u0 = 0 → (vp_in v3 13 ∧ G_RF_entryNamed l V Q 28 [(0, xq (some 250)), (1, xi v1), (2, xi v2), (3, xi (I 263 v3.toNatClampNeg)), (4, xi u0), (5, xi (v5 + 1))] [] I J P)))) : G_RF_entryNamed l V Q 61 [(0, xq (some 250)), (1, xi v1), (2, xi v2), (3, xi v3), (4, xi v4), (5, xi v5)] [xi u0] I J P := by
  refine xG_istore (lv' := [(4, xi u0), (0, xq (some 250)), (1, xi v1), (2, xi v2), (3, xi v3), (5, xi v5)]) d_RF_entryNamed_61 (Nat.le_of_ble_eq_true rfl) rfl ?_
  refine xG_iload d_RF_entryNamed_63 rfl ?_
  refine xG_if_eq (tgt := 77) d_RF_entryNamed_65 (by decide) (fun c => ?_) (fun c => ?_)
  · have h := h.1 c
    refine xG_iload_n d_RF_entryNamed_77 rfl rfl ?_
    refine xG_istore_n (lv' := [(3, xi v3), (4, xi u0), (0, xq (some 250)), (1, xi v1), (2, xi v2), (5, xi v5)]) d_RF_entryNamed_78 rfl (Nat.le_of_ble_eq_true rfl) rfl ?_
    refine xG_iinc (v := v5 + 1) (lv' := [(5, xi (v5 + 1)), (3, xi v3), (4, xi u0), (0, xq (some 250)), (1, xi v1), (2, xi v2)]) d_RF_entryNamed_79 rfl rfl (Nat.le_of_ble_eq_true rfl) rfl ?_
    refine xG_goto (tgt := 28) d_RF_entryNamed_82 (by decide) ?_
    refine xG_pick [3, 4, 5, 1, 2, 0] rfl ?_
    exact h
  · have h := h.2 c
    refine xG_aload_n d_RF_entryNamed_68 rfl rfl rfl ?_
    refine xG_getq d_RF_entryNamed_69 xf_RF_46 rfl s0_250 ?_
    refine xG_iload_n d_RF_entryNamed_72 rfl rfl ?_
    refine xG_iald d_RF_entryNamed_73 (lp_250_33 hL) s0_263 h.1 ?_
    have h := h.2
    refine xG_goto (tgt := 78) d_RF_entryNamed_74 (by decide) ?_
    refine xG_istore_n (lv' := [(3, xi (I 263 v3.toNatClampNeg)), (4, xi u0), (0, xq (some 250)), (1, xi v1), (2, xi v2), (5, xi v5)]) d_RF_entryNamed_78 rfl (Nat.le_of_ble_eq_true rfl) rfl ?_
    refine xG_iinc (v := v5 + 1) (lv' := [(5, xi (v5 + 1)), (3, xi (I 263 v3.toNatClampNeg)), (4, xi u0), (0, xq (some 250)), (1, xi v1), (2, xi v2)]) d_RF_entryNamed_79 rfl rfl (Nat.le_of_ble_eq_true rfl) rfl ?_
    refine xG_goto (tgt := 28) d_RF_entryNamed_82 (by decide) ?_
    refine xG_pick [3, 4, 5, 1, 2, 0] rfl ?_
    exact h
theorem e_RF_entryNamed {l : Launch} {V : xV} {Q : Int32 → xIt → xJt → xPt → Prop} {I : xIt} {J : xJt} {P : xPt} {v1 : Int32} (h : G_RF_entryNamed l V Q 0 [(0, xq (some 250)), (1, xi v1)] [] I J P) : xMet l V y_RF_entryNamed 2 0 0 [xq (some 250), xi v1] xS0 I J P (xPi Q) := xMet_of (by decide) (Nat.le_of_ble_eq_true rfl) h

abbrev G_RF_setPart (l : Launch) (V : xV) (Q : xIt → xJt → xPt → Prop) (pc : Nat) (lv : List (Nat × xX)) (st : List xX) (I : xIt) (J : xJt) (P : xPt) : Prop := xG l V y_RF_setPart (xR 1 0 0) (xFn V y_RF_setPart (xR 1 0 0) (xPv Q)) pc lv st xS0 I J P (0, 0)
set_option maxRecDepth 20000 in
theorem b_RF_setPart_0 {l : Launch} {V : xV} {Q : xIt → xJt → xPt → Prop} {I : xIt} {J : xJt} {P : xPt} (hL : xL P) {v1 : Int32} (h : (vp_in v1 13 ∧ (vp_in v1 13 ∧ G_RF_setPart l V Q 26 [(0, xq (some 250)), (1, xi v1), (2, xi 0)] [] (xu (xu I 264 v1.toNatClampNeg (I 256 0)) 265 v1.toNatClampNeg (I 257 0)) J P))) : G_RF_setPart l V Q 0 [(0, xq (some 250)), (1, xi v1)] [] I J P := by
  refine xG_aload_n d_RF_setPart_0 rfl rfl rfl ?_
  refine xG_getq d_RF_setPart_1 xf_RF_49 rfl s0_250 ?_
  refine xG_iload_n d_RF_setPart_4 rfl rfl ?_
  refine xG_aload_n d_RF_setPart_5 rfl rfl rfl ?_
  refine xG_getq d_RF_setPart_6 xf_RF_25 rfl s0_250 ?_
  refine xG_iconst (v := 0) d_RF_setPart_9 rfl ?_
  refine xG_iald d_RF_setPart_10 (lp_250_25 hL) s0_256 (x_vp (by decide)) ?_
  refine xG_topi (x' := I 256 0) (by first | rfl | exact xu_at | simp [xu]) ?_
  refine xG_iast d_RF_setPart_11 (lp_250_34 hL) s0_264 h.1 ?_
  have h := h.2
  refine xG_aload_n d_RF_setPart_12 rfl rfl rfl ?_
  refine xG_getq d_RF_setPart_13 xf_RF_52 rfl s0_250 ?_
  refine xG_iload_n d_RF_setPart_16 rfl rfl ?_
  refine xG_aload_n d_RF_setPart_17 rfl rfl rfl ?_
  refine xG_getq d_RF_setPart_18 xf_RF_28 rfl s0_250 ?_
  refine xG_iconst (v := 0) d_RF_setPart_21 rfl ?_
  refine xG_iald d_RF_setPart_22 (lp_250_26 hL) s0_257 (x_vp (by decide)) ?_
  refine xG_topi (x' := I 257 0) (by first | rfl | exact xu_at | simp [xu]) ?_
  refine xG_iast d_RF_setPart_23 (lp_250_35 hL) s0_265 h.1 ?_
  have h := h.2
  refine xG_iconst (v := 0) d_RF_setPart_24 rfl ?_
  refine xG_istore_n (lv' := [(2, xi 0), (0, xq (some 250)), (1, xi v1)]) d_RF_setPart_25 rfl (Nat.le_of_ble_eq_true rfl) rfl ?_
  refine xG_pick [1, 2, 0] rfl ?_
  exact h
set_option maxRecDepth 20000 in
theorem b_RF_setPart_26 {l : Launch} {V : xV} {Q : xIt → xJt → xPt → Prop} {I : xIt} {J : xJt} {P : xPt} (hL : xL P) {v1 : Int32} {v2 : Int32} (h : (((I 257 0) ≤ v2 → Q I J P) ∧ (¬ (I 257 0) ≤ v2 → (vp_in v2 40 ∧ (vp_in ((6 * v1) + v2) 78 ∧ G_RF_setPart l V Q 26 [(0, xq (some 250)), (1, xi v1), (2, xi (v2 + 1))] [] (xu I 266 (((6 * v1) + v2).toNatClampNeg) (I 255 v2.toNatClampNeg)) J P))))) : G_RF_setPart l V Q 26 [(0, xq (some 250)), (1, xi v1), (2, xi v2)] [] I J P := by
  refine xG_iload_n d_RF_setPart_26 rfl rfl ?_
  refine xG_aload_n d_RF_setPart_27 rfl rfl rfl ?_
  refine xG_getq d_RF_setPart_28 xf_RF_28 rfl s0_250 ?_
  refine xG_iconst (v := 0) d_RF_setPart_31 rfl ?_
  refine xG_iald d_RF_setPart_32 (lp_250_26 hL) s0_257 (x_vp (by decide)) ?_
  refine xG_topi (x' := I 257 0) (by first | rfl | exact xu_at | simp [xu]) ?_
  refine xG_icmp_ge (tgt := 59) d_RF_setPart_33 (by decide) (fun c => ?_) (fun c => ?_)
  · have h := h.1 c
    exact xG_return d_RF_setPart_59 rfl ⟨rfl, hL, rfl, h⟩
  · have h := h.2 c
    refine xG_aload_n d_RF_setPart_36 rfl rfl rfl ?_
    refine xG_getq d_RF_setPart_37 xf_RF_55 rfl s0_250 ?_
    refine xG_bipush (v := 6) d_RF_setPart_40 rfl ?_
    refine xG_iload_n d_RF_setPart_42 rfl rfl ?_
    refine xG_imul d_RF_setPart_43 ?_
    refine xG_iload_n d_RF_setPart_44 rfl rfl ?_
    refine xG_iadd d_RF_setPart_45 ?_
    refine xG_aload_n d_RF_setPart_46 rfl rfl rfl ?_
    refine xG_getq d_RF_setPart_47 xf_RF_22 rfl s0_250 ?_
    refine xG_iload_n d_RF_setPart_50 rfl rfl ?_
    refine xG_iald d_RF_setPart_51 (lp_250_23 hL) s0_255 h.1 ?_
    have h := h.2
    refine xG_iast d_RF_setPart_52 (lp_250_36 hL) s0_266 h.1 ?_
    have h := h.2
    refine xG_iinc (v := v2 + 1) (lv' := [(2, xi (v2 + 1)), (0, xq (some 250)), (1, xi v1)]) d_RF_setPart_53 rfl rfl (Nat.le_of_ble_eq_true rfl) rfl ?_
    refine xG_goto (tgt := 26) d_RF_setPart_56 (by decide) ?_
    refine xG_pick [1, 2, 0] rfl ?_
    exact h
theorem e_RF_setPart {l : Launch} {V : xV} {Q : xIt → xJt → xPt → Prop} {I : xIt} {J : xJt} {P : xPt} {v1 : Int32} (h : G_RF_setPart l V Q 0 [(0, xq (some 250)), (1, xi v1)] [] I J P) : xMet l V y_RF_setPart 1 0 0 [xq (some 250), xi v1] xS0 I J P (xPv Q) := xMet_of (by decide) (Nat.le_of_ble_eq_true rfl) h

abbrev G_RF_hasPart (l : Launch) (V : xV) (Q : Int32 → xIt → xJt → xPt → Prop) (pc : Nat) (lv : List (Nat × xX)) (st : List xX) (I : xIt) (J : xJt) (P : xPt) : Prop := xG l V y_RF_hasPart (xR 2 0 0) (xFn V y_RF_hasPart (xR 2 0 0) (xPi Q)) pc lv st xS0 I J P (0, 0)
set_option maxRecDepth 20000 in
theorem b_RF_hasPart_0 {l : Launch} {V : xV} {Q : Int32 → xIt → xJt → xPt → Prop} {I : xIt} {J : xJt} {P : xPt} (hL : xL P) {v1 : Int32} (h : G_RF_hasPart l V Q 2 [(0, xq (some 250)), (1, xi v1), (2, xi 0)] [] I J P) : G_RF_hasPart l V Q 0 [(0, xq (some 250)), (1, xi v1)] [] I J P := by
  refine xG_iconst (v := 0) d_RF_hasPart_0 rfl ?_
  refine xG_istore_n (lv' := [(2, xi 0), (0, xq (some 250)), (1, xi v1)]) d_RF_hasPart_1 rfl (Nat.le_of_ble_eq_true rfl) rfl ?_
  refine xG_pick [1, 2, 0] rfl ?_
  exact h
set_option maxRecDepth 20000 in
theorem b_RF_hasPart_2 {l : Launch} {V : xV} {Q : Int32 → xIt → xJt → xPt → Prop} {I : xIt} {J : xJt} {P : xPt} (hL : xL P) {v1 : Int32} {v2 : Int32} (h : (vp_in v1 13 ∧ (((I 265 v1.toNatClampNeg) ≤ v2 → (vp_in v1 13 ∧ (vp_in v1 13 ∧ (∃ Q1 : Int32 → xIt → xJt → xPt → Prop, xMet l V y_RF_placeOf 1 0 0 [xq (some 250), xi v1, xi (I 264 v1.toNatClampNeg), xi 3, xi (I 265 v1.toNatClampNeg)] xS0 I J P (xPi Q1) ∧ ∀ (z1 : Int32) (I1 : xIt) (J1 : xJt) (P1 : xPt), Q1 z1 I1 J1 P1 → ((z1 < 0 → Q 0 I1 J1 P1) ∧ (¬ z1 < 0 → Q 1 I1 J1 P1)))))) ∧ (¬ (I 265 v1.toNatClampNeg) ≤ v2 → (vp_in ((6 * v1) + v2) 78 ∧ (vp_in (24 + v2) 40 ∧ G_RF_hasPart l V Q 2 [(0, xq (some 250)), (1, xi v1), (2, xi (v2 + 1))] [] (xu I 255 ((24 + v2).toNatClampNeg) (I 266 (((6 * v1) + v2).toNatClampNeg))) J P)))))) : G_RF_hasPart l V Q 2 [(0, xq (some 250)), (1, xi v1), (2, xi v2)] [] I J P := by
  refine xG_iload_n d_RF_hasPart_2 rfl rfl ?_
  refine xG_aload_n d_RF_hasPart_3 rfl rfl rfl ?_
  refine xG_getq d_RF_hasPart_4 xf_RF_52 rfl s0_250 ?_
  refine xG_iload_n d_RF_hasPart_7 rfl rfl ?_
  refine xG_iald d_RF_hasPart_8 (lp_250_35 hL) s0_265 h.1 ?_
  have h := h.2
  refine xG_icmp_ge (tgt := 38) d_RF_hasPart_9 (by decide) (fun c => ?_) (fun c => ?_)
  · have h := h.1 c
    refine xG_aload_n d_RF_hasPart_38 rfl rfl rfl ?_
    refine xG_iload_n d_RF_hasPart_39 rfl rfl ?_
    refine xG_aload_n d_RF_hasPart_40 rfl rfl rfl ?_
    refine xG_getq d_RF_hasPart_41 xf_RF_49 rfl s0_250 ?_
    refine xG_iload_n d_RF_hasPart_44 rfl rfl ?_
    refine xG_iald d_RF_hasPart_45 (lp_250_34 hL) s0_264 h.1 ?_
    have h := h.2
    refine xG_iconst (v := 3) d_RF_hasPart_46 rfl ?_
    refine xG_aload_n d_RF_hasPart_47 rfl rfl rfl ?_
    refine xG_getq d_RF_hasPart_48 xf_RF_52 rfl s0_250 ?_
    refine xG_iload_n d_RF_hasPart_51 rfl rfl ?_
    refine xG_iald d_RF_hasPart_52 (lp_250_35 hL) s0_265 h.1 ?_
    have h := h.2
    obtain ⟨Q1, hM, h⟩ := h
    refine xG_callv (as := [xi v1, xi (I 264 v1.toNatClampNeg), xi 3, xi (I 265 v1.toNatClampNeg)]) (rest := []) d_RF_hasPart_53 yv_RF_placeOf w5_54 rfl rfl rfl s0_250 (by decide) rfl hM ⟨by decide, by decide⟩ (Nat.le_of_ble_eq_true rfl) ⟨Nat.zero_le _, Nat.zero_le _⟩ (fun r S1 I1 J1 P1 hp => ?_)
    obtain ⟨rfl, hL1, z1, rfl, hq⟩ := hp
    have h := h z1 I1 J1 P1 hq
    refine xG_if_lt (tgt := 63) d_RF_hasPart_56 (by decide) (fun c => ?_) (fun c => ?_)
    · have h := h.1 c
      refine xG_iconst (v := 0) d_RF_hasPart_63 rfl ?_
      exact xG_ireturn d_RF_hasPart_64 rfl rfl ⟨rfl, hL1, _, rfl, h⟩
    · have h := h.2 c
      refine xG_iconst (v := 1) d_RF_hasPart_59 rfl ?_
      refine xG_goto (tgt := 64) d_RF_hasPart_60 (by decide) ?_
      exact xG_ireturn d_RF_hasPart_64 rfl rfl ⟨rfl, hL1, _, rfl, h⟩
  · have h := h.2 c
    refine xG_aload_n d_RF_hasPart_12 rfl rfl rfl ?_
    refine xG_getq d_RF_hasPart_13 xf_RF_22 rfl s0_250 ?_
    refine xG_bipush (v := 24) d_RF_hasPart_16 rfl ?_
    refine xG_iload_n d_RF_hasPart_18 rfl rfl ?_
    refine xG_iadd d_RF_hasPart_19 ?_
    refine xG_aload_n d_RF_hasPart_20 rfl rfl rfl ?_
    refine xG_getq d_RF_hasPart_21 xf_RF_55 rfl s0_250 ?_
    refine xG_bipush (v := 6) d_RF_hasPart_24 rfl ?_
    refine xG_iload_n d_RF_hasPart_26 rfl rfl ?_
    refine xG_imul d_RF_hasPart_27 ?_
    refine xG_iload_n d_RF_hasPart_28 rfl rfl ?_
    refine xG_iadd d_RF_hasPart_29 ?_
    refine xG_iald d_RF_hasPart_30 (lp_250_36 hL) s0_266 h.1 ?_
    have h := h.2
    refine xG_topi (x' := I 266 (((6 * v1) + v2).toNatClampNeg)) (by first | rfl | exact xu_at | simp [xu]) ?_
    refine xG_iast d_RF_hasPart_31 (lp_250_23 hL) s0_255 h.1 ?_
    have h := h.2
    refine xG_iinc (v := v2 + 1) (lv' := [(2, xi (v2 + 1)), (0, xq (some 250)), (1, xi v1)]) d_RF_hasPart_32 rfl rfl (Nat.le_of_ble_eq_true rfl) rfl ?_
    refine xG_goto (tgt := 2) d_RF_hasPart_35 (by decide) ?_
    refine xG_pick [1, 2, 0] rfl ?_
    exact h
theorem e_RF_hasPart {l : Launch} {V : xV} {Q : Int32 → xIt → xJt → xPt → Prop} {I : xIt} {J : xJt} {P : xPt} {v1 : Int32} (h : G_RF_hasPart l V Q 0 [(0, xq (some 250)), (1, xi v1)] [] I J P) : xMet l V y_RF_hasPart 2 0 0 [xq (some 250), xi v1] xS0 I J P (xPi Q) := xMet_of (by decide) (Nat.le_of_ble_eq_true rfl) h

abbrev G_RF_inClass (l : Launch) (V : xV) (Q : Int32 → xIt → xJt → xPt → Prop) (pc : Nat) (lv : List (Nat × xX)) (st : List xX) (I : xIt) (J : xJt) (P : xPt) : Prop := xG l V y_RF_inClass (xR 2 0 0) (xFn V y_RF_inClass (xR 2 0 0) (xPi Q)) pc lv st xS0 I J P (0, 0)
set_option maxRecDepth 20000 in
theorem b_RF_inClass_0 {l : Launch} {V : xV} {Q : Int32 → xIt → xJt → xPt → Prop} {I : xIt} {J : xJt} {P : xPt} (hL : xL P) {v1 : Int32} {v2 : Int32} (h : (∃ Q1 : Int32 → xIt → xJt → xPt → Prop, xMet l V y_RF_placeOf 1 0 0 [xq (some 250), xi v1, xi 0, xi 4, xi 1] xS0 (xu I 255 32 v2) J P (xPi Q1) ∧ ∀ (z1 : Int32) (I1 : xIt) (J1 : xJt) (P1 : xPt), Q1 z1 I1 J1 P1 → ((z1 < 0 → Q 0 I1 J1 P1) ∧ (¬ z1 < 0 → Q 1 I1 J1 P1)))) : G_RF_inClass l V Q 0 [(0, xq (some 250)), (1, xi v1), (2, xi v2)] [] I J P := by
  refine xG_aload_n d_RF_inClass_0 rfl rfl rfl ?_
  refine xG_getq d_RF_inClass_1 xf_RF_22 rfl s0_250 ?_
  refine xG_bipush (v := 32) d_RF_inClass_4 rfl ?_
  refine xG_iload_n d_RF_inClass_6 rfl rfl ?_
  refine xG_iast d_RF_inClass_7 (lp_250_23 hL) s0_255 (x_vp (by decide)) ?_
  refine xG_hI (I' := (xu I 255 32 v2)) rfl ?_
  refine xG_aload_n d_RF_inClass_8 rfl rfl rfl ?_
  refine xG_iload_n d_RF_inClass_9 rfl rfl ?_
  refine xG_iconst (v := 0) d_RF_inClass_10 rfl ?_
  refine xG_iconst (v := 4) d_RF_inClass_11 rfl ?_
  refine xG_iconst (v := 1) d_RF_inClass_12 rfl ?_
  obtain ⟨Q1, hM, h⟩ := h
  refine xG_callv (as := [xi v1, xi 0, xi 4, xi 1]) (rest := []) d_RF_inClass_13 yv_RF_placeOf w5_54 rfl rfl rfl s0_250 (by decide) rfl hM ⟨by decide, by decide⟩ (Nat.le_of_ble_eq_true rfl) ⟨Nat.zero_le _, Nat.zero_le _⟩ (fun r S1 I1 J1 P1 hp => ?_)
  obtain ⟨rfl, hL1, z1, rfl, hq⟩ := hp
  have h := h z1 I1 J1 P1 hq
  refine xG_if_lt (tgt := 23) d_RF_inClass_16 (by decide) (fun c => ?_) (fun c => ?_)
  · have h := h.1 c
    refine xG_iconst (v := 0) d_RF_inClass_23 rfl ?_
    exact xG_ireturn d_RF_inClass_24 rfl rfl ⟨rfl, hL1, _, rfl, h⟩
  · have h := h.2 c
    refine xG_iconst (v := 1) d_RF_inClass_19 rfl ?_
    refine xG_goto (tgt := 24) d_RF_inClass_20 (by decide) ?_
    exact xG_ireturn d_RF_inClass_24 rfl rfl ⟨rfl, hL1, _, rfl, h⟩
theorem e_RF_inClass {l : Launch} {V : xV} {Q : Int32 → xIt → xJt → xPt → Prop} {I : xIt} {J : xJt} {P : xPt} {v1 : Int32} {v2 : Int32} (h : G_RF_inClass l V Q 0 [(0, xq (some 250)), (1, xi v1), (2, xi v2)] [] I J P) : xMet l V y_RF_inClass 2 0 0 [xq (some 250), xi v1, xi v2] xS0 I J P (xPi Q) := xMet_of (by decide) (Nat.le_of_ble_eq_true rfl) h

abbrev G_RF_structural (l : Launch) (V : xV) (Q : Int32 → xIt → xJt → xPt → Prop) (pc : Nat) (lv : List (Nat × xX)) (st : List xX) (I : xIt) (J : xJt) (P : xPt) : Prop := xG l V y_RF_structural (xR 3 0 0) (xFn V y_RF_structural (xR 3 0 0) (xPi Q)) pc lv st xS0 I J P (0, 0)
set_option maxRecDepth 20000 in
theorem b_RF_structural_0 {l : Launch} {V : xV} {Q : Int32 → xIt → xJt → xPt → Prop} {I : xIt} {J : xJt} {P : xPt} (hL : xL P) {v1 : Int32} (h : (∃ Q1 : Int32 → xIt → xJt → xPt → Prop, xMet l V y_RF_inClass 2 0 0 [xq (some 250), xi v1, xi 103] xS0 I J P (xPi Q1) ∧ ∀ (z1 : Int32) (I1 : xIt) (J1 : xJt) (P1 : xPt), Q1 z1 I1 J1 P1 → ((z1 = 0 → (∃ Q2 : Int32 → xIt → xJt → xPt → Prop, xMet l V y_RF_inClass 2 0 0 [xq (some 250), xi v1, xi 104] xS0 I1 J1 P1 (xPi Q2) ∧ ∀ (z2 : Int32) (I2 : xIt) (J2 : xJt) (P2 : xPt), Q2 z2 I2 J2 P2 → ((z2 = 0 → Q (0 + 0) I2 J2 P2) ∧ (¬ z2 = 0 → Q (0 + 2) I2 J2 P2)))) ∧ (¬ z1 = 0 → (∃ Q3 : Int32 → xIt → xJt → xPt → Prop, xMet l V y_RF_inClass 2 0 0 [xq (some 250), xi v1, xi 104] xS0 I1 J1 P1 (xPi Q3) ∧ ∀ (z3 : Int32) (I3 : xIt) (J3 : xJt) (P3 : xPt), Q3 z3 I3 J3 P3 → ((z3 = 0 → Q (1 + 0) I3 J3 P3) ∧ (¬ z3 = 0 → Q (1 + 2) I3 J3 P3))))))) : G_RF_structural l V Q 0 [(0, xq (some 250)), (1, xi v1)] [] I J P := by
  refine xG_aload_n d_RF_structural_0 rfl rfl rfl ?_
  refine xG_iload_n d_RF_structural_1 rfl rfl ?_
  refine xG_bipush (v := 103) d_RF_structural_2 rfl ?_
  obtain ⟨Q1, hM, h⟩ := h
  refine xG_callv (as := [xi v1, xi 103]) (rest := []) d_RF_structural_4 yv_RF_inClass w5_109 rfl rfl rfl s0_250 (by decide) rfl hM ⟨by decide, by decide⟩ (Nat.le_of_ble_eq_true rfl) ⟨Nat.zero_le _, Nat.zero_le _⟩ (fun r S1 I1 J1 P1 hp => ?_)
  obtain ⟨rfl, hL1, z1, rfl, hq⟩ := hp
  have h := h z1 I1 J1 P1 hq
  refine xG_if_eq (tgt := 14) d_RF_structural_7 (by decide) (fun c => ?_) (fun c => ?_)
  · have h := h.1 c
    refine xG_iconst (v := 0) d_RF_structural_14 rfl ?_
    refine xG_aload_n d_RF_structural_15 rfl rfl rfl ?_
    refine xG_iload_n d_RF_structural_16 rfl rfl ?_
    refine xG_bipush (v := 104) d_RF_structural_17 rfl ?_
    obtain ⟨Q2, hM, h⟩ := h
    refine xG_callv (as := [xi v1, xi 104]) (rest := [xi 0]) d_RF_structural_19 yv_RF_inClass w5_109 rfl rfl rfl s0_250 (by decide) rfl hM ⟨by decide, by decide⟩ (Nat.le_of_ble_eq_true rfl) ⟨Nat.zero_le _, Nat.zero_le _⟩ (fun r S2 I2 J2 P2 hp => ?_)
    obtain ⟨rfl, hL2, z2, rfl, hq⟩ := hp
    have h := h z2 I2 J2 P2 hq
    refine xG_if_eq (tgt := 29) d_RF_structural_22 (by decide) (fun c => ?_) (fun c => ?_)
    · have h := h.1 c
      refine xG_iconst (v := 0) d_RF_structural_29 rfl ?_
      refine xG_iadd d_RF_structural_30 ?_
      exact xG_ireturn d_RF_structural_31 rfl rfl ⟨rfl, hL2, _, rfl, h⟩
    · have h := h.2 c
      refine xG_iconst (v := 2) d_RF_structural_25 rfl ?_
      refine xG_goto (tgt := 30) d_RF_structural_26 (by decide) ?_
      refine xG_iadd d_RF_structural_30 ?_
      exact xG_ireturn d_RF_structural_31 rfl rfl ⟨rfl, hL2, _, rfl, h⟩
  · have h := h.2 c
    refine xG_iconst (v := 1) d_RF_structural_10 rfl ?_
    refine xG_goto (tgt := 15) d_RF_structural_11 (by decide) ?_
    refine xG_aload_n d_RF_structural_15 rfl rfl rfl ?_
    refine xG_iload_n d_RF_structural_16 rfl rfl ?_
    refine xG_bipush (v := 104) d_RF_structural_17 rfl ?_
    obtain ⟨Q3, hM, h⟩ := h
    refine xG_callv (as := [xi v1, xi 104]) (rest := [xi 1]) d_RF_structural_19 yv_RF_inClass w5_109 rfl rfl rfl s0_250 (by decide) rfl hM ⟨by decide, by decide⟩ (Nat.le_of_ble_eq_true rfl) ⟨Nat.zero_le _, Nat.zero_le _⟩ (fun r S3 I3 J3 P3 hp => ?_)
    obtain ⟨rfl, hL3, z3, rfl, hq⟩ := hp
    have h := h z3 I3 J3 P3 hq
    refine xG_if_eq (tgt := 29) d_RF_structural_22 (by decide) (fun c => ?_) (fun c => ?_)
    · have h := h.1 c
      refine xG_iconst (v := 0) d_RF_structural_29 rfl ?_
      refine xG_iadd d_RF_structural_30 ?_
      exact xG_ireturn d_RF_structural_31 rfl rfl ⟨rfl, hL3, _, rfl, h⟩
    · have h := h.2 c
      refine xG_iconst (v := 2) d_RF_structural_25 rfl ?_
      refine xG_goto (tgt := 30) d_RF_structural_26 (by decide) ?_
      refine xG_iadd d_RF_structural_30 ?_
      exact xG_ireturn d_RF_structural_31 rfl rfl ⟨rfl, hL3, _, rfl, h⟩
theorem e_RF_structural {l : Launch} {V : xV} {Q : Int32 → xIt → xJt → xPt → Prop} {I : xIt} {J : xJt} {P : xPt} {v1 : Int32} (h : G_RF_structural l V Q 0 [(0, xq (some 250)), (1, xi v1)] [] I J P) : xMet l V y_RF_structural 3 0 0 [xq (some 250), xi v1] xS0 I J P (xPi Q) := xMet_of (by decide) (Nat.le_of_ble_eq_true rfl) h

abbrev G_RF_fits (l : Launch) (V : xV) (Q : Int32 → xIt → xJt → xPt → Prop) (pc : Nat) (lv : List (Nat × xX)) (st : List xX) (I : xIt) (J : xJt) (P : xPt) : Prop := xG l V y_RF_fits (xR 4 0 0) (xFn V y_RF_fits (xR 4 0 0) (xPi Q)) pc lv st xS0 I J P (0, 0)
set_option maxRecDepth 20000 in
theorem b_RF_fits_0 {l : Launch} {V : xV} {Q : Int32 → xIt → xJt → xPt → Prop} {I : xIt} {J : xJt} {P : xPt} (hL : xL P) {v1 : Int32} (h : (∃ Q1 : Int32 → xIt → xJt → xPt → Prop, xMet l V y_RF_structural 3 0 0 [xq (some 250), xi v1] xS0 I J P (xPi Q1) ∧ ∀ (z1 : Int32) (I1 : xIt) (J1 : xJt) (P1 : xPt), Q1 z1 I1 J1 P1 → (∃ Q2 : Int32 → xIt → xJt → xPt → Prop, xMet l V y_RF_inClass 2 0 0 [xq (some 250), xi v1, xi 120] xS0 I1 J1 P1 (xPi Q2) ∧ ∀ (z2 : Int32) (I2 : xIt) (J2 : xJt) (P2 : xPt), Q2 z2 I2 J2 P2 → ((z1 = 1 → (vp_in (5 * v1) 65 ∧ ((z2 = 0 → G_RF_fits l V Q 41 [(0, xq (some 250)), (1, xi v1), (2, xi z1), (3, xi z2)] [xi 1, xi (I2 258 ((5 * v1).toNatClampNeg))] I2 J2 P2) ∧ (¬ z2 = 0 → G_RF_fits l V Q 41 [(0, xq (some 250)), (1, xi v1), (2, xi z1), (3, xi z2)] [xi 2, xi (I2 258 ((5 * v1).toNatClampNeg))] I2 J2 P2)))) ∧ (¬ z1 = 1 → ((¬ z1 = 2 → Q 0 I2 J2 P2) ∧ (z1 = 2 → (vp_in (5 * v1) 65 ∧ ((z2 = 0 → G_RF_fits l V Q 41 [(0, xq (some 250)), (1, xi v1), (2, xi z1), (3, xi z2)] [xi 1, xi (I2 258 ((5 * v1).toNatClampNeg))] I2 J2 P2) ∧ (¬ z2 = 0 → G_RF_fits l V Q 41 [(0, xq (some 250)), (1, xi v1), (2, xi z1), (3, xi z2)] [xi 2, xi (I2 258 ((5 * v1).toNatClampNeg))] I2 J2 P2)))))))))) : G_RF_fits l V Q 0 [(0, xq (some 250)), (1, xi v1)] [] I J P := by
  refine xG_aload_n d_RF_fits_0 rfl rfl rfl ?_
  refine xG_iload_n d_RF_fits_1 rfl rfl ?_
  obtain ⟨Q1, hM, h⟩ := h
  refine xG_callv (as := [xi v1]) (rest := []) d_RF_fits_2 yv_RF_structural w5_105 rfl rfl rfl s0_250 (by decide) rfl hM ⟨by decide, by decide⟩ (Nat.le_of_ble_eq_true rfl) ⟨Nat.zero_le _, Nat.zero_le _⟩ (fun r S1 I1 J1 P1 hp => ?_)
  obtain ⟨rfl, hL1, z1, rfl, hq⟩ := hp
  have h := h z1 I1 J1 P1 hq
  refine xG_istore_n (lv' := [(2, xi z1), (0, xq (some 250)), (1, xi v1)]) d_RF_fits_5 rfl (Nat.le_of_ble_eq_true rfl) rfl ?_
  refine xG_aload_n d_RF_fits_6 rfl rfl rfl ?_
  refine xG_iload_n d_RF_fits_7 rfl rfl ?_
  refine xG_bipush (v := 120) d_RF_fits_8 rfl ?_
  obtain ⟨Q2, hM, h⟩ := h
  refine xG_callv (as := [xi v1, xi 120]) (rest := []) d_RF_fits_10 yv_RF_inClass w5_109 rfl rfl rfl s0_250 (by decide) rfl hM ⟨by decide, by decide⟩ (Nat.le_of_ble_eq_true rfl) ⟨Nat.zero_le _, Nat.zero_le _⟩ (fun r S2 I2 J2 P2 hp => ?_)
  obtain ⟨rfl, hL2, z2, rfl, hq⟩ := hp
  have h := h z2 I2 J2 P2 hq
  refine xG_istore_n (lv' := [(3, xi z2), (2, xi z1), (0, xq (some 250)), (1, xi v1)]) d_RF_fits_13 rfl (Nat.le_of_ble_eq_true rfl) rfl ?_
  refine xG_iload_n d_RF_fits_14 rfl rfl ?_
  refine xG_iconst (v := 1) d_RF_fits_15 rfl ?_
  refine xG_icmp_eq (tgt := 24) d_RF_fits_16 (by decide) (fun c => ?_) (fun c => ?_)
  · have h := h.1 c
    refine xG_aload_n d_RF_fits_24 rfl rfl rfl ?_
    refine xG_getq d_RF_fits_25 xf_RF_31 rfl s0_250 ?_
    refine xG_iconst (v := 5) d_RF_fits_28 rfl ?_
    refine xG_iload_n d_RF_fits_29 rfl rfl ?_
    refine xG_imul d_RF_fits_30 ?_
    refine xG_iald d_RF_fits_31 (lp_250_28 hL2) s0_258 h.1 ?_
    have h := h.2
    refine xG_topi (x' := I2 258 ((5 * v1).toNatClampNeg)) (by first | rfl | exact xu_at | simp [xu]) ?_
    refine xG_iload_n d_RF_fits_32 rfl rfl ?_
    refine xG_if_eq (tgt := 40) d_RF_fits_33 (by decide) (fun c => ?_) (fun c => ?_)
    · have h := h.1 c
      refine xG_iconst (v := 1) d_RF_fits_40 rfl ?_
      refine xG_pick [2, 3, 1, 0] rfl ?_
      exact h
    · have h := h.2 c
      refine xG_iconst (v := 2) d_RF_fits_36 rfl ?_
      refine xG_goto (tgt := 41) d_RF_fits_37 (by decide) ?_
      refine xG_pick [2, 3, 1, 0] rfl ?_
      exact h
  · have h := h.2 c
    refine xG_iload_n d_RF_fits_19 rfl rfl ?_
    refine xG_iconst (v := 2) d_RF_fits_20 rfl ?_
    refine xG_icmp_ne (tgt := 57) d_RF_fits_21 (by decide) (fun c => ?_) (fun c => ?_)
    · have h := h.1 c
      refine xG_iconst (v := 0) d_RF_fits_57 rfl ?_
      exact xG_ireturn d_RF_fits_58 rfl rfl ⟨rfl, hL2, _, rfl, h⟩
    · have h := h.2 c
      refine xG_aload_n d_RF_fits_24 rfl rfl rfl ?_
      refine xG_getq d_RF_fits_25 xf_RF_31 rfl s0_250 ?_
      refine xG_iconst (v := 5) d_RF_fits_28 rfl ?_
      refine xG_iload_n d_RF_fits_29 rfl rfl ?_
      refine xG_imul d_RF_fits_30 ?_
      refine xG_iald d_RF_fits_31 (lp_250_28 hL2) s0_258 h.1 ?_
      have h := h.2
      refine xG_topi (x' := I2 258 ((5 * v1).toNatClampNeg)) (by first | rfl | exact xu_at | simp [xu]) ?_
      refine xG_iload_n d_RF_fits_32 rfl rfl ?_
      refine xG_if_eq (tgt := 40) d_RF_fits_33 (by decide) (fun c => ?_) (fun c => ?_)
      · have h := h.1 c
        refine xG_iconst (v := 1) d_RF_fits_40 rfl ?_
        refine xG_pick [2, 3, 1, 0] rfl ?_
        exact h
      · have h := h.2 c
        refine xG_iconst (v := 2) d_RF_fits_36 rfl ?_
        refine xG_goto (tgt := 41) d_RF_fits_37 (by decide) ?_
        refine xG_pick [2, 3, 1, 0] rfl ?_
        exact h
set_option maxRecDepth 20000 in
theorem b_RF_fits_41 {l : Launch} {V : xV} {Q : Int32 → xIt → xJt → xPt → Prop} {I : xIt} {J : xJt} {P : xPt} (hL : xL P) {v1 : Int32} {v2 : Int32} {v3 : Int32} {u0 : Int32} {u1 : Int32} (h : ((¬ u1 = u0 → Q 0 I J P) ∧ (u1 = u0 → (vp_in ((5 * v1) + 1) 65 ∧ ((¬ (I 258 (((5 * v1) + 1).toNatClampNeg)) = 0 → ((¬ v2 = 2 → ((¬ v3 = 0 → Q 1 I J P) ∧ (v3 = 0 → (vp_in ((5 * v1) + 3) 65 ∧ (vp_in ((5 * v1) + 4) 65 ∧ ((¬ ((I 258 (((5 * v1) + 3).toNatClampNeg)) + (I 258 (((5 * v1) + 4).toNatClampNeg))) = 0 → Q 0 I J P) ∧ (((I 258 (((5 * v1) + 3).toNatClampNeg)) + (I 258 (((5 * v1) + 4).toNatClampNeg))) = 0 → Q 1 I J P))))))) ∧ (v2 = 2 → (vp_in ((5 * v1) + 3) 65 ∧ (((I 258 (((5 * v1) + 3).toNatClampNeg)) ≤ 0 → Q 0 I J P) ∧ (¬ (I 258 (((5 * v1) + 3).toNatClampNeg)) ≤ 0 → Q 1 I J P)))))) ∧ ((I 258 (((5 * v1) + 1).toNatClampNeg)) = 0 → Q 0 I J P)))))) : G_RF_fits l V Q 41 [(0, xq (some 250)), (1, xi v1), (2, xi v2), (3, xi v3)] [xi u0, xi u1] I J P := by
  refine xG_icmp_ne (tgt := 57) d_RF_fits_41 (by decide) (fun c => ?_) (fun c => ?_)
  · have h := h.1 c
    refine xG_iconst (v := 0) d_RF_fits_57 rfl ?_
    exact xG_ireturn d_RF_fits_58 rfl rfl ⟨rfl, hL, _, rfl, h⟩
  · have h := h.2 c
    refine xG_aload_n d_RF_fits_44 rfl rfl rfl ?_
    refine xG_getq d_RF_fits_45 xf_RF_31 rfl s0_250 ?_
    refine xG_iconst (v := 5) d_RF_fits_48 rfl ?_
    refine xG_iload_n d_RF_fits_49 rfl rfl ?_
    refine xG_imul d_RF_fits_50 ?_
    refine xG_iconst (v := 1) d_RF_fits_51 rfl ?_
    refine xG_iadd d_RF_fits_52 ?_
    refine xG_iald d_RF_fits_53 (lp_250_28 hL) s0_258 h.1 ?_
    have h := h.2
    refine xG_topi (x' := I 258 (((5 * v1) + 1).toNatClampNeg)) (by first | rfl | exact xu_at | simp [xu]) ?_
    refine xG_if_ne (tgt := 59) d_RF_fits_54 (by decide) (fun c => ?_) (fun c => ?_)
    · have h := h.1 c
      refine xG_iload_n d_RF_fits_59 rfl rfl ?_
      refine xG_iconst (v := 2) d_RF_fits_60 rfl ?_
      refine xG_icmp_ne (tgt := 85) d_RF_fits_61 (by decide) (fun c => ?_) (fun c => ?_)
      · have h := h.1 c
        refine xG_iload_n d_RF_fits_85 rfl rfl ?_
        refine xG_if_ne (tgt := 113) d_RF_fits_86 (by decide) (fun c => ?_) (fun c => ?_)
        · have h := h.1 c
          refine xG_iconst (v := 1) d_RF_fits_113 rfl ?_
          refine xG_goto (tgt := 118) d_RF_fits_114 (by decide) ?_
          exact xG_ireturn d_RF_fits_118 rfl rfl ⟨rfl, hL, _, rfl, h⟩
        · have h := h.2 c
          refine xG_aload_n d_RF_fits_89 rfl rfl rfl ?_
          refine xG_getq d_RF_fits_90 xf_RF_31 rfl s0_250 ?_
          refine xG_iconst (v := 5) d_RF_fits_93 rfl ?_
          refine xG_iload_n d_RF_fits_94 rfl rfl ?_
          refine xG_imul d_RF_fits_95 ?_
          refine xG_iconst (v := 3) d_RF_fits_96 rfl ?_
          refine xG_iadd d_RF_fits_97 ?_
          refine xG_iald d_RF_fits_98 (lp_250_28 hL) s0_258 h.1 ?_
          have h := h.2
          refine xG_topi (x' := I 258 (((5 * v1) + 3).toNatClampNeg)) (by first | rfl | exact xu_at | simp [xu]) ?_
          refine xG_aload_n d_RF_fits_99 rfl rfl rfl ?_
          refine xG_getq d_RF_fits_100 xf_RF_31 rfl s0_250 ?_
          refine xG_iconst (v := 5) d_RF_fits_103 rfl ?_
          refine xG_iload_n d_RF_fits_104 rfl rfl ?_
          refine xG_imul d_RF_fits_105 ?_
          refine xG_iconst (v := 4) d_RF_fits_106 rfl ?_
          refine xG_iadd d_RF_fits_107 ?_
          refine xG_iald d_RF_fits_108 (lp_250_28 hL) s0_258 h.1 ?_
          have h := h.2
          refine xG_topi (x' := I 258 (((5 * v1) + 4).toNatClampNeg)) (by first | rfl | exact xu_at | simp [xu]) ?_
          refine xG_iadd d_RF_fits_109 ?_
          refine xG_if_ne (tgt := 117) d_RF_fits_110 (by decide) (fun c => ?_) (fun c => ?_)
          · have h := h.1 c
            refine xG_iconst (v := 0) d_RF_fits_117 rfl ?_
            exact xG_ireturn d_RF_fits_118 rfl rfl ⟨rfl, hL, _, rfl, h⟩
          · have h := h.2 c
            refine xG_iconst (v := 1) d_RF_fits_113 rfl ?_
            refine xG_goto (tgt := 118) d_RF_fits_114 (by decide) ?_
            exact xG_ireturn d_RF_fits_118 rfl rfl ⟨rfl, hL, _, rfl, h⟩
      · have h := h.2 c
        refine xG_aload_n d_RF_fits_64 rfl rfl rfl ?_
        refine xG_getq d_RF_fits_65 xf_RF_31 rfl s0_250 ?_
        refine xG_iconst (v := 5) d_RF_fits_68 rfl ?_
        refine xG_iload_n d_RF_fits_69 rfl rfl ?_
        refine xG_imul d_RF_fits_70 ?_
        refine xG_iconst (v := 3) d_RF_fits_71 rfl ?_
        refine xG_iadd d_RF_fits_72 ?_
        refine xG_iald d_RF_fits_73 (lp_250_28 hL) s0_258 h.1 ?_
        have h := h.2
        refine xG_topi (x' := I 258 (((5 * v1) + 3).toNatClampNeg)) (by first | rfl | exact xu_at | simp [xu]) ?_
        refine xG_if_le (tgt := 81) d_RF_fits_74 (by decide) (fun c => ?_) (fun c => ?_)
        · have h := h.1 c
          refine xG_iconst (v := 0) d_RF_fits_81 rfl ?_
          refine xG_goto (tgt := 118) d_RF_fits_82 (by decide) ?_
          exact xG_ireturn d_RF_fits_118 rfl rfl ⟨rfl, hL, _, rfl, h⟩
        · have h := h.2 c
          refine xG_iconst (v := 1) d_RF_fits_77 rfl ?_
          refine xG_goto (tgt := 118) d_RF_fits_78 (by decide) ?_
          exact xG_ireturn d_RF_fits_118 rfl rfl ⟨rfl, hL, _, rfl, h⟩
    · have h := h.2 c
      refine xG_iconst (v := 0) d_RF_fits_57 rfl ?_
      exact xG_ireturn d_RF_fits_58 rfl rfl ⟨rfl, hL, _, rfl, h⟩
theorem e_RF_fits {l : Launch} {V : xV} {Q : Int32 → xIt → xJt → xPt → Prop} {I : xIt} {J : xJt} {P : xPt} {v1 : Int32} (h : G_RF_fits l V Q 0 [(0, xq (some 250)), (1, xi v1)] [] I J P) : xMet l V y_RF_fits 4 0 0 [xq (some 250), xi v1] xS0 I J P (xPi Q) := xMet_of (by decide) (Nat.le_of_ble_eq_true rfl) h

abbrev G_RF_judgeValues (l : Launch) (V : xV) (Q : Int32 → xIt → xJt → xPt → Prop) (pc : Nat) (lv : List (Nat × xX)) (st : List xX) (I : xIt) (J : xJt) (P : xPt) : Prop := xG l V y_RF_judgeValues (xR 4 0 0) (xFn V y_RF_judgeValues (xR 4 0 0) (xPi Q)) pc lv st xS0 I J P (0, 0)
set_option maxRecDepth 20000 in
theorem b_RF_judgeValues_0 {l : Launch} {V : xV} {Q : Int32 → xIt → xJt → xPt → Prop} {I : xIt} {J : xJt} {P : xPt} (hL : xL P) {v1 : Int32} (h : G_RF_judgeValues l V Q 2 [(0, xq (some 250)), (1, xi v1), (2, xi 0)] [] I J P) : G_RF_judgeValues l V Q 0 [(0, xq (some 250)), (1, xi v1)] [] I J P := by
  refine xG_iconst (v := 0) d_RF_judgeValues_0 rfl ?_
  refine xG_istore_n (lv' := [(2, xi 0), (0, xq (some 250)), (1, xi v1)]) d_RF_judgeValues_1 rfl (Nat.le_of_ble_eq_true rfl) rfl ?_
  refine xG_pick [1, 2, 0] rfl ?_
  exact h
set_option maxRecDepth 20000 in
theorem b_RF_judgeValues_2 {l : Launch} {V : xV} {Q : Int32 → xIt → xJt → xPt → Prop} {I : xIt} {J : xJt} {P : xPt} (hL : xL P) {v1 : Int32} {v2 : Int32} (h : (((I 250 18) ≤ v2 → Q 0 I J P) ∧ (¬ (I 250 18) ≤ v2 → (vp_in v2 8 ∧ (vp_in v2 8 ∧ (∃ Q1 : xIt → xJt → xPt → Prop, xMet l V y_RF_load 1 0 0 [xq (some 250), xi (I 252 v2.toNatClampNeg), xi (I 253 v2.toNatClampNeg)] xS0 I J P (xPv Q1) ∧ ∀ (I1 : xIt) (J1 : xJt) (P1 : xPt), Q1 I1 J1 P1 → (∃ Q2 : Int32 → xIt → xJt → xPt → Prop, xMet l V y_RF_formOf 3 0 0 [xq (some 250), xi v1, xi 3] xS0 I1 J1 P1 (xPi Q2) ∧ ∀ (z2 : Int32) (I2 : xIt) (J2 : xJt) (P2 : xPt), Q2 z2 I2 J2 P2 → ((0 ≤ z2 → G_RF_judgeValues l V Q 43 [(0, xq (some 250)), (1, xi v1), (2, xi v2), (3, xi z2), (4, xi 0)] [] I2 J2 P2) ∧ (¬ 0 ≤ z2 → Q 21 I2 J2 P2))))))))) : G_RF_judgeValues l V Q 2 [(0, xq (some 250)), (1, xi v1), (2, xi v2)] [] I J P := by
  refine xG_iload_n d_RF_judgeValues_2 rfl rfl ?_
  refine xG_aload_n d_RF_judgeValues_3 rfl rfl rfl ?_
  refine xG_geti d_RF_judgeValues_4 xf_RF_124 rfl s0_250 ?_
  refine xG_icmp_ge (tgt := 102) d_RF_judgeValues_7 (by decide) (fun c => ?_) (fun c => ?_)
  · have h := h.1 c
    refine xG_iconst (v := 0) d_RF_judgeValues_102 rfl ?_
    exact xG_ireturn d_RF_judgeValues_103 rfl rfl ⟨rfl, hL, _, rfl, h⟩
  · have h := h.2 c
    refine xG_aload_n d_RF_judgeValues_10 rfl rfl rfl ?_
    refine xG_aload_n d_RF_judgeValues_11 rfl rfl rfl ?_
    refine xG_getq d_RF_judgeValues_12 xf_RF_13 rfl s0_250 ?_
    refine xG_iload_n d_RF_judgeValues_15 rfl rfl ?_
    refine xG_iald d_RF_judgeValues_16 (lp_250_19 hL) s0_252 h.1 ?_
    have h := h.2
    refine xG_aload_n d_RF_judgeValues_17 rfl rfl rfl ?_
    refine xG_getq d_RF_judgeValues_18 xf_RF_16 rfl s0_250 ?_
    refine xG_iload_n d_RF_judgeValues_21 rfl rfl ?_
    refine xG_iald d_RF_judgeValues_22 (lp_250_20 hL) s0_253 h.1 ?_
    have h := h.2
    obtain ⟨Q1, hM, h⟩ := h
    refine xG_callv (as := [xi (I 252 v2.toNatClampNeg), xi (I 253 v2.toNatClampNeg)]) (rest := []) d_RF_judgeValues_23 yv_RF_load w5_50 rfl rfl rfl s0_250 (by decide) rfl hM ⟨by decide, by decide⟩ (Nat.le_of_ble_eq_true rfl) ⟨Nat.zero_le _, Nat.zero_le _⟩ (fun r S1 I1 J1 P1 hp => ?_)
    obtain ⟨rfl, hL1, rfl, hq⟩ := hp
    have h := h I1 J1 P1 hq
    refine xG_aload_n d_RF_judgeValues_26 rfl rfl rfl ?_
    refine xG_iload_n d_RF_judgeValues_27 rfl rfl ?_
    refine xG_iconst (v := 3) d_RF_judgeValues_28 rfl ?_
    obtain ⟨Q2, hM, h⟩ := h
    refine xG_callv (as := [xi v1, xi 3]) (rest := []) d_RF_judgeValues_29 yv_RF_formOf w5_30 rfl rfl rfl s0_250 (by decide) rfl hM ⟨by decide, by decide⟩ (Nat.le_of_ble_eq_true rfl) ⟨Nat.zero_le _, Nat.zero_le _⟩ (fun r S2 I2 J2 P2 hp => ?_)
    obtain ⟨rfl, hL2, z2, rfl, hq⟩ := hp
    have h := h z2 I2 J2 P2 hq
    refine xG_istore_n (lv' := [(3, xi z2), (0, xq (some 250)), (1, xi v1), (2, xi v2)]) d_RF_judgeValues_32 rfl (Nat.le_of_ble_eq_true rfl) rfl ?_
    refine xG_iload_n d_RF_judgeValues_33 rfl rfl ?_
    refine xG_if_ge (tgt := 40) d_RF_judgeValues_34 (by decide) (fun c => ?_) (fun c => ?_)
    · have h := h.1 c
      refine xG_iconst (v := 0) d_RF_judgeValues_40 rfl ?_
      refine xG_istore (lv' := [(4, xi 0), (3, xi z2), (0, xq (some 250)), (1, xi v1), (2, xi v2)]) d_RF_judgeValues_41 (Nat.le_of_ble_eq_true rfl) rfl ?_
      refine xG_pick [2, 3, 4, 1, 0] rfl ?_
      exact h
    · have h := h.2 c
      refine xG_bipush (v := 21) d_RF_judgeValues_37 rfl ?_
      exact xG_ireturn d_RF_judgeValues_39 rfl rfl ⟨rfl, hL2, _, rfl, h⟩
set_option maxRecDepth 20000 in
theorem b_RF_judgeValues_43 {l : Launch} {V : xV} {Q : Int32 → xIt → xJt → xPt → Prop} {I : xIt} {J : xJt} {P : xPt} (hL : xL P) {v1 : Int32} {v2 : Int32} {v3 : Int32} {v4 : Int32} (h : ((v2 ≤ v4 → G_RF_judgeValues l V Q 2 [(0, xq (some 250)), (1, xi v1), (2, xi (v2 + 1))] [] I J P) ∧ (¬ v2 ≤ v4 → (vp_in v4 8 ∧ (vp_in v4 8 ∧ (∃ Q1 : xIt → xJt → xPt → Prop, xMet l V y_RF_load 1 0 0 [xq (some 250), xi (I 252 v4.toNatClampNeg), xi (I 253 v4.toNatClampNeg)] xS0 I J P (xPv Q1) ∧ ∀ (I1 : xIt) (J1 : xJt) (P1 : xPt), Q1 I1 J1 P1 → (∃ Q2 : Int32 → xIt → xJt → xPt → Prop, xMet l V y_RF_formOf 3 0 0 [xq (some 250), xi v1, xi 4] xS0 I1 J1 P1 (xPi Q2) ∧ ∀ (z2 : Int32) (I2 : xIt) (J2 : xJt) (P2 : xPt), Q2 z2 I2 J2 P2 → (∃ Q3 : Int32 → xIt → xJt → xPt → Prop, xMet l V y_RF_equalForms 1 0 0 [xq (some 250), xi 3, xi v3, xi 4, xi z2] xS0 I2 J2 P2 (xPi Q3) ∧ ∀ (z3 : Int32) (I3 : xIt) (J3 : xJt) (P3 : xPt), Q3 z3 I3 J3 P3 → ((z3 = 0 → G_RF_judgeValues l V Q 43 [(0, xq (some 250)), (1, xi v1), (2, xi v2), (3, xi v3), (4, xi (v4 + 1))] [] I3 J3 P3) ∧ (¬ z3 = 0 → Q 20 I3 J3 P3)))))))))) : G_RF_judgeValues l V Q 43 [(0, xq (some 250)), (1, xi v1), (2, xi v2), (3, xi v3), (4, xi v4)] [] I J P := by
  refine xG_iload d_RF_judgeValues_43 rfl ?_
  refine xG_iload_n d_RF_judgeValues_45 rfl rfl ?_
  refine xG_icmp_ge (tgt := 96) d_RF_judgeValues_46 (by decide) (fun c => ?_) (fun c => ?_)
  · have h := h.1 c
    refine xG_iinc (v := v2 + 1) (lv' := [(2, xi (v2 + 1)), (0, xq (some 250)), (1, xi v1), (3, xi v3), (4, xi v4)]) d_RF_judgeValues_96 rfl rfl (Nat.le_of_ble_eq_true rfl) rfl ?_
    refine xG_goto (tgt := 2) d_RF_judgeValues_99 (by decide) ?_
    refine xG_pick [1, 2, 0] rfl ?_
    exact h
  · have h := h.2 c
    refine xG_aload_n d_RF_judgeValues_49 rfl rfl rfl ?_
    refine xG_aload_n d_RF_judgeValues_50 rfl rfl rfl ?_
    refine xG_getq d_RF_judgeValues_51 xf_RF_13 rfl s0_250 ?_
    refine xG_iload d_RF_judgeValues_54 rfl ?_
    refine xG_iald d_RF_judgeValues_56 (lp_250_19 hL) s0_252 h.1 ?_
    have h := h.2
    refine xG_aload_n d_RF_judgeValues_57 rfl rfl rfl ?_
    refine xG_getq d_RF_judgeValues_58 xf_RF_16 rfl s0_250 ?_
    refine xG_iload d_RF_judgeValues_61 rfl ?_
    refine xG_iald d_RF_judgeValues_63 (lp_250_20 hL) s0_253 h.1 ?_
    have h := h.2
    obtain ⟨Q1, hM, h⟩ := h
    refine xG_callv (as := [xi (I 252 v4.toNatClampNeg), xi (I 253 v4.toNatClampNeg)]) (rest := []) d_RF_judgeValues_64 yv_RF_load w5_50 rfl rfl rfl s0_250 (by decide) rfl hM ⟨by decide, by decide⟩ (Nat.le_of_ble_eq_true rfl) ⟨Nat.zero_le _, Nat.zero_le _⟩ (fun r S1 I1 J1 P1 hp => ?_)
    obtain ⟨rfl, hL1, rfl, hq⟩ := hp
    have h := h I1 J1 P1 hq
    refine xG_aload_n d_RF_judgeValues_67 rfl rfl rfl ?_
    refine xG_iload_n d_RF_judgeValues_68 rfl rfl ?_
    refine xG_iconst (v := 4) d_RF_judgeValues_69 rfl ?_
    obtain ⟨Q2, hM, h⟩ := h
    refine xG_callv (as := [xi v1, xi 4]) (rest := []) d_RF_judgeValues_70 yv_RF_formOf w5_30 rfl rfl rfl s0_250 (by decide) rfl hM ⟨by decide, by decide⟩ (Nat.le_of_ble_eq_true rfl) ⟨Nat.zero_le _, Nat.zero_le _⟩ (fun r S2 I2 J2 P2 hp => ?_)
    obtain ⟨rfl, hL2, z2, rfl, hq⟩ := hp
    have h := h z2 I2 J2 P2 hq
    refine xG_istore (lv' := [(5, xi z2), (0, xq (some 250)), (1, xi v1), (2, xi v2), (3, xi v3), (4, xi v4)]) d_RF_judgeValues_73 (Nat.le_of_ble_eq_true rfl) rfl ?_
    refine xG_aload_n d_RF_judgeValues_75 rfl rfl rfl ?_
    refine xG_iconst (v := 3) d_RF_judgeValues_76 rfl ?_
    refine xG_iload_n d_RF_judgeValues_77 rfl rfl ?_
    refine xG_iconst (v := 4) d_RF_judgeValues_78 rfl ?_
    refine xG_iload d_RF_judgeValues_79 rfl ?_
    obtain ⟨Q3, hM, h⟩ := h
    refine xG_callv (as := [xi 3, xi v3, xi 4, xi z2]) (rest := []) d_RF_judgeValues_81 yv_RF_equalForms w5_86 rfl rfl rfl s0_250 (by decide) rfl hM ⟨by decide, by decide⟩ (Nat.le_of_ble_eq_true rfl) ⟨Nat.zero_le _, Nat.zero_le _⟩ (fun r S3 I3 J3 P3 hp => ?_)
    obtain ⟨rfl, hL3, z3, rfl, hq⟩ := hp
    have h := h z3 I3 J3 P3 hq
    refine xG_if_eq (tgt := 90) d_RF_judgeValues_84 (by decide) (fun c => ?_) (fun c => ?_)
    · have h := h.1 c
      refine xG_iinc (v := v4 + 1) (lv' := [(4, xi (v4 + 1)), (5, xi z2), (0, xq (some 250)), (1, xi v1), (2, xi v2), (3, xi v3)]) d_RF_judgeValues_90 rfl rfl (Nat.le_of_ble_eq_true rfl) rfl ?_
      refine xG_goto (tgt := 43) d_RF_judgeValues_93 (by decide) ?_
      refine xG_pick [2, 3, 4, 5, 0] rfl ?_
      exact h
    · have h := h.2 c
      refine xG_bipush (v := 20) d_RF_judgeValues_87 rfl ?_
      exact xG_ireturn d_RF_judgeValues_89 rfl rfl ⟨rfl, hL3, _, rfl, h⟩
theorem e_RF_judgeValues {l : Launch} {V : xV} {Q : Int32 → xIt → xJt → xPt → Prop} {I : xIt} {J : xJt} {P : xPt} {v1 : Int32} (h : G_RF_judgeValues l V Q 0 [(0, xq (some 250)), (1, xi v1)] [] I J P) : xMet l V y_RF_judgeValues 4 0 0 [xq (some 250), xi v1] xS0 I J P (xPi Q) := xMet_of (by decide) (Nat.le_of_ble_eq_true rfl) h

abbrev G_RF_appendValues (l : Launch) (V : xV) (Q : xIt → xJt → xPt → Prop) (pc : Nat) (lv : List (Nat × xX)) (st : List xX) (I : xIt) (J : xJt) (P : xPt) : Prop := xG l V y_RF_appendValues (xR 4 0 0) (xFn V y_RF_appendValues (xR 4 0 0) (xPv Q)) pc lv st xS0 I J P (0, 0)
set_option maxRecDepth 20000 in
theorem b_RF_appendValues_0 {l : Launch} {V : xV} {Q : xIt → xJt → xPt → Prop} {I : xIt} {J : xJt} {P : xPt} (hL : xL P) {v1 : Int32} {v2 : Int32} (h : G_RF_appendValues l V Q 2 [(0, xq (some 250)), (1, xi v1), (2, xi v2), (3, xi 0)] [] I J P) : G_RF_appendValues l V Q 0 [(0, xq (some 250)), (1, xi v1), (2, xi v2)] [] I J P := by
  refine xG_iconst (v := 0) d_RF_appendValues_0 rfl ?_
  refine xG_istore_n (lv' := [(3, xi 0), (0, xq (some 250)), (1, xi v1), (2, xi v2)]) d_RF_appendValues_1 rfl (Nat.le_of_ble_eq_true rfl) rfl ?_
  refine xG_pick [1, 2, 3, 0] rfl ?_
  exact h
set_option maxRecDepth 20000 in
theorem b_RF_appendValues_2 {l : Launch} {V : xV} {Q : xIt → xJt → xPt → Prop} {I : xIt} {J : xJt} {P : xPt} (hL : xL P) {v1 : Int32} {v2 : Int32} {v3 : Int32} (h : (((I 250 18) ≤ v3 → Q I J P) ∧ (¬ (I 250 18) ≤ v3 → (vp_in v3 8 ∧ (vp_in v3 8 ∧ (∃ Q1 : xIt → xJt → xPt → Prop, xMet l V y_RF_load 1 0 0 [xq (some 250), xi (I 252 v3.toNatClampNeg), xi (I 253 v3.toNatClampNeg)] xS0 I J P (xPv Q1) ∧ ∀ (I1 : xIt) (J1 : xJt) (P1 : xPt), Q1 I1 J1 P1 → (∃ Q2 : Int32 → xIt → xJt → xPt → Prop, xMet l V y_RF_formOf 3 0 0 [xq (some 250), xi v2, xi 3] xS0 I1 J1 P1 (xPi Q2) ∧ ∀ (z2 : Int32) (I2 : xIt) (J2 : xJt) (P2 : xPt), Q2 z2 I2 J2 P2 → (∃ Q3 : xIt → xJt → xPt → Prop, xMet l V y_RF_append 1 0 0 [xq (some 250), xi v1, xi v2, xi 3, xi z2] xS0 I2 J2 P2 (xPv Q3) ∧ ∀ (I3 : xIt) (J3 : xJt) (P3 : xPt), Q3 I3 J3 P3 → G_RF_appendValues l V Q 2 [(0, xq (some 250)), (1, xi v1), (2, xi v2), (3, xi (v3 + 1))] [] I3 J3 P3)))))))) : G_RF_appendValues l V Q 2 [(0, xq (some 250)), (1, xi v1), (2, xi v2), (3, xi v3)] [] I J P := by
  refine xG_iload_n d_RF_appendValues_2 rfl rfl ?_
  refine xG_aload_n d_RF_appendValues_3 rfl rfl rfl ?_
  refine xG_geti d_RF_appendValues_4 xf_RF_124 rfl s0_250 ?_
  refine xG_icmp_ge (tgt := 49) d_RF_appendValues_7 (by decide) (fun c => ?_) (fun c => ?_)
  · have h := h.1 c
    exact xG_return d_RF_appendValues_49 rfl ⟨rfl, hL, rfl, h⟩
  · have h := h.2 c
    refine xG_aload_n d_RF_appendValues_10 rfl rfl rfl ?_
    refine xG_aload_n d_RF_appendValues_11 rfl rfl rfl ?_
    refine xG_getq d_RF_appendValues_12 xf_RF_13 rfl s0_250 ?_
    refine xG_iload_n d_RF_appendValues_15 rfl rfl ?_
    refine xG_iald d_RF_appendValues_16 (lp_250_19 hL) s0_252 h.1 ?_
    have h := h.2
    refine xG_aload_n d_RF_appendValues_17 rfl rfl rfl ?_
    refine xG_getq d_RF_appendValues_18 xf_RF_16 rfl s0_250 ?_
    refine xG_iload_n d_RF_appendValues_21 rfl rfl ?_
    refine xG_iald d_RF_appendValues_22 (lp_250_20 hL) s0_253 h.1 ?_
    have h := h.2
    obtain ⟨Q1, hM, h⟩ := h
    refine xG_callv (as := [xi (I 252 v3.toNatClampNeg), xi (I 253 v3.toNatClampNeg)]) (rest := []) d_RF_appendValues_23 yv_RF_load w5_50 rfl rfl rfl s0_250 (by decide) rfl hM ⟨by decide, by decide⟩ (Nat.le_of_ble_eq_true rfl) ⟨Nat.zero_le _, Nat.zero_le _⟩ (fun r S1 I1 J1 P1 hp => ?_)
    obtain ⟨rfl, hL1, rfl, hq⟩ := hp
    have h := h I1 J1 P1 hq
    refine xG_aload_n d_RF_appendValues_26 rfl rfl rfl ?_
    refine xG_iload_n d_RF_appendValues_27 rfl rfl ?_
    refine xG_iconst (v := 3) d_RF_appendValues_28 rfl ?_
    obtain ⟨Q2, hM, h⟩ := h
    refine xG_callv (as := [xi v2, xi 3]) (rest := []) d_RF_appendValues_29 yv_RF_formOf w5_30 rfl rfl rfl s0_250 (by decide) rfl hM ⟨by decide, by decide⟩ (Nat.le_of_ble_eq_true rfl) ⟨Nat.zero_le _, Nat.zero_le _⟩ (fun r S2 I2 J2 P2 hp => ?_)
    obtain ⟨rfl, hL2, z2, rfl, hq⟩ := hp
    have h := h z2 I2 J2 P2 hq
    refine xG_istore (lv' := [(4, xi z2), (0, xq (some 250)), (1, xi v1), (2, xi v2), (3, xi v3)]) d_RF_appendValues_32 (Nat.le_of_ble_eq_true rfl) rfl ?_
    refine xG_aload_n d_RF_appendValues_34 rfl rfl rfl ?_
    refine xG_iload_n d_RF_appendValues_35 rfl rfl ?_
    refine xG_iload_n d_RF_appendValues_36 rfl rfl ?_
    refine xG_iconst (v := 3) d_RF_appendValues_37 rfl ?_
    refine xG_iload d_RF_appendValues_38 rfl ?_
    obtain ⟨Q3, hM, h⟩ := h
    refine xG_callv (as := [xi v1, xi v2, xi 3, xi z2]) (rest := []) d_RF_appendValues_40 yv_RF_append w5_97 rfl rfl rfl s0_250 (by decide) rfl hM ⟨by decide, by decide⟩ (Nat.le_of_ble_eq_true rfl) ⟨Nat.zero_le _, Nat.zero_le _⟩ (fun r S3 I3 J3 P3 hp => ?_)
    obtain ⟨rfl, hL3, rfl, hq⟩ := hp
    have h := h I3 J3 P3 hq
    refine xG_iinc (v := v3 + 1) (lv' := [(3, xi (v3 + 1)), (4, xi z2), (0, xq (some 250)), (1, xi v1), (2, xi v2)]) d_RF_appendValues_43 rfl rfl (Nat.le_of_ble_eq_true rfl) rfl ?_
    refine xG_goto (tgt := 2) d_RF_appendValues_46 (by decide) ?_
    refine xG_pick [2, 3, 4, 0] rfl ?_
    exact h
theorem e_RF_appendValues {l : Launch} {V : xV} {Q : xIt → xJt → xPt → Prop} {I : xIt} {J : xJt} {P : xPt} {v1 : Int32} {v2 : Int32} (h : G_RF_appendValues l V Q 0 [(0, xq (some 250)), (1, xi v1), (2, xi v2)] [] I J P) : xMet l V y_RF_appendValues 4 0 0 [xq (some 250), xi v1, xi v2] xS0 I J P (xPv Q) := xMet_of (by decide) (Nat.le_of_ble_eq_true rfl) h

abbrev G_RF_bind (l : Launch) (V : xV) (Q : Int32 → xIt → xJt → xPt → Prop) (pc : Nat) (lv : List (Nat × xX)) (st : List xX) (I : xIt) (J : xJt) (P : xPt) : Prop := xG l V y_RF_bind (xR 5 0 0) (xFn V y_RF_bind (xR 5 0 0) (xPi Q)) pc lv st xS0 I J P (0, 0)
set_option maxRecDepth 20000 in
theorem b_RF_bind_0 {l : Launch} {V : xV} {Q : Int32 → xIt → xJt → xPt → Prop} {I : xIt} {J : xJt} {P : xPt} (hL : xL P)  (h : (((I 250 10) = 3 → (∃ Q1 : Int32 → xIt → xJt → xPt → Prop, xMet l V y_RF_readName 4 0 0 [xq (some 250), xi (I 250 12), xi (I 250 13)] xS0 I J P (xPi Q1) ∧ ∀ (z1 : Int32) (I1 : xIt) (J1 : xJt) (P1 : xPt), Q1 z1 I1 J1 P1 → ((0 ≤ z1 → (∃ Q2 : Int32 → xIt → xJt → xPt → Prop, xMet l V y_RF_entryNamed 2 0 0 [xq (some 250), xi 0] xS0 I1 J1 P1 (xPi Q2) ∧ ∀ (z2 : Int32) (I2 : xIt) (J2 : xJt) (P2 : xPt), Q2 z2 I2 J2 P2 → G_RF_bind l V Q 35 [(0, xq (some 250))] [xi z2] I2 J2 P2)) ∧ (¬ 0 ≤ z1 → G_RF_bind l V Q 35 [(0, xq (some 250))] [xi (-2)] I1 J1 P1)))) ∧ (¬ (I 250 10) = 3 → Q 2 I J P))) : G_RF_bind l V Q 0 [(0, xq (some 250))] [] I J P := by
  refine xG_aload_n d_RF_bind_0 rfl rfl rfl ?_
  refine xG_geti d_RF_bind_1 xf_RF_155 rfl s0_250 ?_
  refine xG_iconst (v := 3) d_RF_bind_4 rfl ?_
  refine xG_icmp_eq (tgt := 10) d_RF_bind_5 (by decide) (fun c => ?_) (fun c => ?_)
  · have h := h.1 c
    refine xG_aload_n d_RF_bind_10 rfl rfl rfl ?_
    refine xG_aload_n d_RF_bind_11 rfl rfl rfl ?_
    refine xG_geti d_RF_bind_12 xf_RF_106 rfl s0_250 ?_
    refine xG_aload_n d_RF_bind_15 rfl rfl rfl ?_
    refine xG_geti d_RF_bind_16 xf_RF_109 rfl s0_250 ?_
    obtain ⟨Q1, hM, h⟩ := h
    refine xG_callv (as := [xi (I 250 12), xi (I 250 13)]) (rest := []) d_RF_bind_19 yv_RF_readName w5_15 rfl rfl rfl s0_250 (by decide) rfl hM ⟨by decide, by decide⟩ (Nat.le_of_ble_eq_true rfl) ⟨Nat.zero_le _, Nat.zero_le _⟩ (fun r S1 I1 J1 P1 hp => ?_)
    obtain ⟨rfl, hL1, z1, rfl, hq⟩ := hp
    have h := h z1 I1 J1 P1 hq
    refine xG_if_ge (tgt := 30) d_RF_bind_22 (by decide) (fun c => ?_) (fun c => ?_)
    · have h := h.1 c
      refine xG_aload_n d_RF_bind_30 rfl rfl rfl ?_
      refine xG_iconst (v := 0) d_RF_bind_31 rfl ?_
      obtain ⟨Q2, hM, h⟩ := h
      refine xG_callv (as := [xi 0]) (rest := []) d_RF_bind_32 yv_RF_entryNamed w5_42 rfl rfl rfl s0_250 (by decide) rfl hM ⟨by decide, by decide⟩ (Nat.le_of_ble_eq_true rfl) ⟨Nat.zero_le _, Nat.zero_le _⟩ (fun r S2 I2 J2 P2 hp => ?_)
      obtain ⟨rfl, hL2, z2, rfl, hq⟩ := hp
      have h := h z2 I2 J2 P2 hq
      exact h
    · have h := h.2 c
      refine xG_bipush (v := (-2)) d_RF_bind_25 rfl ?_
      refine xG_goto (tgt := 35) d_RF_bind_27 (by decide) ?_
      exact h
  · have h := h.2 c
    refine xG_iconst (v := 2) d_RF_bind_8 rfl ?_
    exact xG_ireturn d_RF_bind_9 rfl rfl ⟨rfl, hL, _, rfl, h⟩
set_option maxRecDepth 20000 in
theorem b_RF_bind_35 {l : Launch} {V : xV} {Q : Int32 → xIt → xJt → xPt → Prop} {I : xIt} {J : xJt} {P : xPt} (hL : xL P) {u0 : Int32} (h : ((¬ (I 250 12) = (I 250 13) → G_RF_bind l V Q 65 [(0, xq (some 250)), (1, xi u0)] [] (xu I 250 37 (-1)) J P) ∧ ((I 250 12) = (I 250 13) → ((¬ (I 250 16) = (I 250 17) → G_RF_bind l V Q 65 [(0, xq (some 250)), (1, xi u0)] [] (xu I 250 37 (-1)) J P) ∧ ((I 250 16) = (I 250 17) → Q 0 (xu I 250 37 (-1)) J P))))) : G_RF_bind l V Q 35 [(0, xq (some 250))] [xi u0] I J P := by
  refine xG_istore_n (lv' := [(1, xi u0), (0, xq (some 250))]) d_RF_bind_35 rfl (Nat.le_of_ble_eq_true rfl) rfl ?_
  refine xG_aload_n d_RF_bind_36 rfl rfl rfl ?_
  refine xG_iconst (v := (-1)) d_RF_bind_37 rfl ?_
  refine xG_puti d_RF_bind_38 xf_RF_58 (Or.inl rfl) rfl s0_250 rfl rfl ?_
  refine xG_aload_n d_RF_bind_41 rfl rfl rfl ?_
  refine xG_geti d_RF_bind_42 xf_RF_106 rfl s0_250 ?_
  refine xG_topi (x' := I 250 12) (by first | rfl | exact xu_at | simp [xu]) ?_
  refine xG_aload_n d_RF_bind_45 rfl rfl rfl ?_
  refine xG_geti d_RF_bind_46 xf_RF_109 rfl s0_250 ?_
  refine xG_topi (x' := I 250 13) (by first | rfl | exact xu_at | simp [xu]) ?_
  refine xG_icmp_ne (tgt := 65) d_RF_bind_49 (by decide) (fun c => ?_) (fun c => ?_)
  · have h := h.1 c
    refine xG_pick [1, 0] rfl ?_
    exact h
  · have h := h.2 c
    refine xG_aload_n d_RF_bind_52 rfl rfl rfl ?_
    refine xG_geti d_RF_bind_53 xf_RF_118 rfl s0_250 ?_
    refine xG_topi (x' := I 250 16) (by first | rfl | exact xu_at | simp [xu]) ?_
    refine xG_aload_n d_RF_bind_56 rfl rfl rfl ?_
    refine xG_geti d_RF_bind_57 xf_RF_121 rfl s0_250 ?_
    refine xG_topi (x' := I 250 17) (by first | rfl | exact xu_at | simp [xu]) ?_
    refine xG_icmp_ne (tgt := 65) d_RF_bind_60 (by decide) (fun c => ?_) (fun c => ?_)
    · have h := h.1 c
      refine xG_pick [1, 0] rfl ?_
      exact h
    · have h := h.2 c
      refine xG_iconst (v := 0) d_RF_bind_63 rfl ?_
      exact xG_ireturn d_RF_bind_64 rfl rfl ⟨rfl, hL, _, rfl, h⟩
set_option maxRecDepth 20000 in
theorem b_RF_bind_65 {l : Launch} {V : xV} {Q : Int32 → xIt → xJt → xPt → Prop} {I : xIt} {J : xJt} {P : xPt} (hL : xL P) {v1 : Int32} (h : ((0 ≤ v1 → (∃ Q1 : xIt → xJt → xPt → Prop, xMet l V y_RF_load 1 0 0 [xq (some 250), xi (I 250 16), xi (I 250 17)] xS0 I J P (xPv Q1) ∧ ∀ (I1 : xIt) (J1 : xJt) (P1 : xPt), Q1 I1 J1 P1 → (∃ Q2 : Int32 → xIt → xJt → xPt → Prop, xMet l V y_RF_formOf 3 0 0 [xq (some 250), xi 4, xi 3] xS0 I1 J1 P1 (xPi Q2) ∧ ∀ (z2 : Int32) (I2 : xIt) (J2 : xJt) (P2 : xPt), Q2 z2 I2 J2 P2 → ((z2 < 0 → Q 49 I2 J2 P2) ∧ (¬ z2 < 0 → (∃ Q3 : Int32 → xIt → xJt → xPt → Prop, xMet l V y_RF_placeOf 1 0 0 [xq (some 250), xi v1, xi 4, xi 3, xi z2] xS0 I2 J2 P2 (xPi Q3) ∧ ∀ (z3 : Int32) (I3 : xIt) (J3 : xJt) (P3 : xPt), Q3 z3 I3 J3 P3 → ((0 ≤ z3 → Q 0 (xu I3 250 37 v1) J3 P3) ∧ (¬ 0 ≤ z3 → Q 49 I3 J3 P3)))))))) ∧ (¬ 0 ≤ v1 → Q 49 I J P))) : G_RF_bind l V Q 65 [(0, xq (some 250)), (1, xi v1)] [] I J P := by
  refine xG_iload_n d_RF_bind_65 rfl rfl ?_
  refine xG_if_ge (tgt := 72) d_RF_bind_66 (by decide) (fun c => ?_) (fun c => ?_)
  · have h := h.1 c
    refine xG_aload_n d_RF_bind_72 rfl rfl rfl ?_
    refine xG_aload_n d_RF_bind_73 rfl rfl rfl ?_
    refine xG_geti d_RF_bind_74 xf_RF_118 rfl s0_250 ?_
    refine xG_aload_n d_RF_bind_77 rfl rfl rfl ?_
    refine xG_geti d_RF_bind_78 xf_RF_121 rfl s0_250 ?_
    obtain ⟨Q1, hM, h⟩ := h
    refine xG_callv (as := [xi (I 250 16), xi (I 250 17)]) (rest := []) d_RF_bind_81 yv_RF_load w5_50 rfl rfl rfl s0_250 (by decide) rfl hM ⟨by decide, by decide⟩ (Nat.le_of_ble_eq_true rfl) ⟨Nat.zero_le _, Nat.zero_le _⟩ (fun r S1 I1 J1 P1 hp => ?_)
    obtain ⟨rfl, hL1, rfl, hq⟩ := hp
    have h := h I1 J1 P1 hq
    refine xG_aload_n d_RF_bind_84 rfl rfl rfl ?_
    refine xG_iconst (v := 4) d_RF_bind_85 rfl ?_
    refine xG_iconst (v := 3) d_RF_bind_86 rfl ?_
    obtain ⟨Q2, hM, h⟩ := h
    refine xG_callv (as := [xi 4, xi 3]) (rest := []) d_RF_bind_87 yv_RF_formOf w5_30 rfl rfl rfl s0_250 (by decide) rfl hM ⟨by decide, by decide⟩ (Nat.le_of_ble_eq_true rfl) ⟨Nat.zero_le _, Nat.zero_le _⟩ (fun r S2 I2 J2 P2 hp => ?_)
    obtain ⟨rfl, hL2, z2, rfl, hq⟩ := hp
    have h := h z2 I2 J2 P2 hq
    refine xG_istore_n (lv' := [(2, xi z2), (0, xq (some 250)), (1, xi v1)]) d_RF_bind_90 rfl (Nat.le_of_ble_eq_true rfl) rfl ?_
    refine xG_iload_n d_RF_bind_91 rfl rfl ?_
    refine xG_if_lt (tgt := 106) d_RF_bind_92 (by decide) (fun c => ?_) (fun c => ?_)
    · have h := h.1 c
      refine xG_bipush (v := 49) d_RF_bind_106 rfl ?_
      exact xG_ireturn d_RF_bind_108 rfl rfl ⟨rfl, hL2, _, rfl, h⟩
    · have h := h.2 c
      refine xG_aload_n d_RF_bind_95 rfl rfl rfl ?_
      refine xG_iload_n d_RF_bind_96 rfl rfl ?_
      refine xG_iconst (v := 4) d_RF_bind_97 rfl ?_
      refine xG_iconst (v := 3) d_RF_bind_98 rfl ?_
      refine xG_iload_n d_RF_bind_99 rfl rfl ?_
      obtain ⟨Q3, hM, h⟩ := h
      refine xG_callv (as := [xi v1, xi 4, xi 3, xi z2]) (rest := []) d_RF_bind_100 yv_RF_placeOf w5_54 rfl rfl rfl s0_250 (by decide) rfl hM ⟨by decide, by decide⟩ (Nat.le_of_ble_eq_true rfl) ⟨Nat.zero_le _, Nat.zero_le _⟩ (fun r S3 I3 J3 P3 hp => ?_)
      obtain ⟨rfl, hL3, z3, rfl, hq⟩ := hp
      have h := h z3 I3 J3 P3 hq
      refine xG_if_ge (tgt := 109) d_RF_bind_103 (by decide) (fun c => ?_) (fun c => ?_)
      · have h := h.1 c
        refine xG_aload_n d_RF_bind_109 rfl rfl rfl ?_
        refine xG_iload_n d_RF_bind_110 rfl rfl ?_
        refine xG_puti d_RF_bind_111 xf_RF_58 (Or.inl rfl) rfl s0_250 rfl rfl ?_
        refine xG_iconst (v := 0) d_RF_bind_114 rfl ?_
        exact xG_ireturn d_RF_bind_115 rfl rfl ⟨rfl, hL3, _, rfl, h⟩
      · have h := h.2 c
        refine xG_bipush (v := 49) d_RF_bind_106 rfl ?_
        exact xG_ireturn d_RF_bind_108 rfl rfl ⟨rfl, hL3, _, rfl, h⟩
  · have h := h.2 c
    refine xG_bipush (v := 49) d_RF_bind_69 rfl ?_
    exact xG_ireturn d_RF_bind_71 rfl rfl ⟨rfl, hL, _, rfl, h⟩
theorem e_RF_bind {l : Launch} {V : xV} {Q : Int32 → xIt → xJt → xPt → Prop} {I : xIt} {J : xJt} {P : xPt}  (h : G_RF_bind l V Q 0 [(0, xq (some 250))] [] I J P) : xMet l V y_RF_bind 5 0 0 [xq (some 250)] xS0 I J P (xPi Q) := xMet_of (by decide) (Nat.le_of_ble_eq_true rfl) h

abbrev G_RF_addAttributes (l : Launch) (V : xV) (Q : Int32 → xIt → xJt → xPt → Prop) (pc : Nat) (lv : List (Nat × xX)) (st : List xX) (I : xIt) (J : xJt) (P : xPt) : Prop := xG l V y_RF_addAttributes (xR 5 0 0) (xFn V y_RF_addAttributes (xR 5 0 0) (xPi Q)) pc lv st xS0 I J P (0, 0)
set_option maxRecDepth 20000 in
theorem b_RF_addAttributes_0 {l : Launch} {V : xV} {Q : Int32 → xIt → xJt → xPt → Prop} {I : xIt} {J : xJt} {P : xPt} (hL : xL P)  (h : G_RF_addAttributes l V Q 12 [(0, xq (some 250)), (1, xi (I 250 16)), (2, xi (I 250 17)), (3, xi 0)] [] I J P) : G_RF_addAttributes l V Q 0 [(0, xq (some 250))] [] I J P := by
  refine xG_aload_n d_RF_addAttributes_0 rfl rfl rfl ?_
  refine xG_geti d_RF_addAttributes_1 xf_RF_118 rfl s0_250 ?_
  refine xG_istore_n (lv' := [(1, xi (I 250 16)), (0, xq (some 250))]) d_RF_addAttributes_4 rfl (Nat.le_of_ble_eq_true rfl) rfl ?_
  refine xG_aload_n d_RF_addAttributes_5 rfl rfl rfl ?_
  refine xG_geti d_RF_addAttributes_6 xf_RF_121 rfl s0_250 ?_
  refine xG_istore_n (lv' := [(2, xi (I 250 17)), (1, xi (I 250 16)), (0, xq (some 250))]) d_RF_addAttributes_9 rfl (Nat.le_of_ble_eq_true rfl) rfl ?_
  refine xG_iconst (v := 0) d_RF_addAttributes_10 rfl ?_
  refine xG_istore_n (lv' := [(3, xi 0), (2, xi (I 250 17)), (1, xi (I 250 16)), (0, xq (some 250))]) d_RF_addAttributes_11 rfl (Nat.le_of_ble_eq_true rfl) rfl ?_
  refine xG_pick [3, 2, 1, 0] rfl ?_
  exact h
set_option maxRecDepth 20000 in
theorem b_RF_addAttributes_12 {l : Launch} {V : xV} {Q : Int32 → xIt → xJt → xPt → Prop} {I : xIt} {J : xJt} {P : xPt} (hL : xL P) {v1 : Int32} {v2 : Int32} {v3 : Int32} (h : ((5 ≤ v3 → G_RF_addAttributes l V Q 33 [(0, xq (some 250)), (1, xi v1), (2, xi v2), (3, xi v3)] [] I J P) ∧ (¬ 5 ≤ v3 → (vp_in (60 + v3) 65 ∧ G_RF_addAttributes l V Q 12 [(0, xq (some 250)), (1, xi v1), (2, xi v2), (3, xi (v3 + 1))] [] (xu I 258 ((60 + v3).toNatClampNeg) 0) J P)))) : G_RF_addAttributes l V Q 12 [(0, xq (some 250)), (1, xi v1), (2, xi v2), (3, xi v3)] [] I J P := by
  refine xG_iload_n d_RF_addAttributes_12 rfl rfl ?_
  refine xG_iconst (v := 5) d_RF_addAttributes_13 rfl ?_
  refine xG_icmp_ge (tgt := 33) d_RF_addAttributes_14 (by decide) (fun c => ?_) (fun c => ?_)
  · have h := h.1 c
    exact h
  · have h := h.2 c
    refine xG_aload_n d_RF_addAttributes_17 rfl rfl rfl ?_
    refine xG_getq d_RF_addAttributes_18 xf_RF_31 rfl s0_250 ?_
    refine xG_bipush (v := 60) d_RF_addAttributes_21 rfl ?_
    refine xG_iload_n d_RF_addAttributes_23 rfl rfl ?_
    refine xG_iadd d_RF_addAttributes_24 ?_
    refine xG_iconst (v := 0) d_RF_addAttributes_25 rfl ?_
    refine xG_iast d_RF_addAttributes_26 (lp_250_28 hL) s0_258 h.1 ?_
    have h := h.2
    refine xG_iinc (v := v3 + 1) (lv' := [(3, xi (v3 + 1)), (0, xq (some 250)), (1, xi v1), (2, xi v2)]) d_RF_addAttributes_27 rfl rfl (Nat.le_of_ble_eq_true rfl) rfl ?_
    refine xG_goto (tgt := 12) d_RF_addAttributes_30 (by decide) ?_
    refine xG_pick [1, 2, 3, 0] rfl ?_
    exact h
set_option maxRecDepth 20000 in
theorem b_RF_addAttributes_33 {l : Launch} {V : xV} {Q : Int32 → xIt → xJt → xPt → Prop} {I : xIt} {J : xJt} {P : xPt} (hL : xL P) {v1 : Int32} {v2 : Int32} {v3 : Int32} (h : ((v2 ≤ v1 → Q 0 I J P) ∧ (¬ v2 ≤ v1 → (∃ Q1 : Int32 → xIt → xJt → xPt → Prop, xMet l V y_RF_take 2 0 0 [xq (some 250), xi 48, xi 255, xi v2] xS0 (xu I 250 6 v1) J P (xPi Q1) ∧ ∀ (z1 : Int32) (I1 : xIt) (J1 : xJt) (P1 : xPt), Q1 z1 I1 J1 P1 → ((z1 = 0 → G_RF_addAttributes l V Q 66 [(0, xq (some 250)), (1, xi v1), (2, xi v2), (3, xi z1)] [xi v2] I1 J1 P1) ∧ (¬ z1 = 0 → G_RF_addAttributes l V Q 66 [(0, xq (some 250)), (1, xi v1), (2, xi v2), (3, xi z1)] [xi (I1 250 6)] I1 J1 P1)))))) : G_RF_addAttributes l V Q 33 [(0, xq (some 250)), (1, xi v1), (2, xi v2), (3, xi v3)] [] I J P := by
  refine xG_iload_n d_RF_addAttributes_33 rfl rfl ?_
  refine xG_iload_n d_RF_addAttributes_34 rfl rfl ?_
  refine xG_icmp_ge (tgt := 216) d_RF_addAttributes_35 (by decide) (fun c => ?_) (fun c => ?_)
  · have h := h.1 c
    refine xG_iconst (v := 0) d_RF_addAttributes_216 rfl ?_
    exact xG_ireturn d_RF_addAttributes_217 rfl rfl ⟨rfl, hL, _, rfl, h⟩
  · have h := h.2 c
    refine xG_aload_n d_RF_addAttributes_38 rfl rfl rfl ?_
    refine xG_iload_n d_RF_addAttributes_39 rfl rfl ?_
    refine xG_puti d_RF_addAttributes_40 xf_RF_92 (Or.inl rfl) rfl s0_250 rfl rfl ?_
    refine xG_aload_n d_RF_addAttributes_43 rfl rfl rfl ?_
    refine xG_bipush (v := 48) d_RF_addAttributes_44 rfl ?_
    refine xG_sipush (v := 255) d_RF_addAttributes_46 rfl ?_
    refine xG_iload_n d_RF_addAttributes_49 rfl rfl ?_
    obtain ⟨Q1, hM, h⟩ := h
    refine xG_callv (as := [xi 48, xi 255, xi v2]) (rest := []) d_RF_addAttributes_50 yv_RF_take w4_191 rfl rfl rfl s0_250 (by decide) rfl hM ⟨by decide, by decide⟩ (Nat.le_of_ble_eq_true rfl) ⟨Nat.zero_le _, Nat.zero_le _⟩ (fun r S1 I1 J1 P1 hp => ?_)
    obtain ⟨rfl, hL1, z1, rfl, hq⟩ := hp
    have h := h z1 I1 J1 P1 hq
    refine xG_istore_n (lv' := [(3, xi z1), (0, xq (some 250)), (1, xi v1), (2, xi v2)]) d_RF_addAttributes_53 rfl (Nat.le_of_ble_eq_true rfl) rfl ?_
    refine xG_iload_n d_RF_addAttributes_54 rfl rfl ?_
    refine xG_if_eq (tgt := 65) d_RF_addAttributes_55 (by decide) (fun c => ?_) (fun c => ?_)
    · have h := h.1 c
      refine xG_iload_n d_RF_addAttributes_65 rfl rfl ?_
      refine xG_pick [1, 2, 3, 0] rfl ?_
      exact h
    · have h := h.2 c
      refine xG_aload_n d_RF_addAttributes_58 rfl rfl rfl ?_
      refine xG_geti d_RF_addAttributes_59 xf_RF_92 rfl s0_250 ?_
      refine xG_goto (tgt := 66) d_RF_addAttributes_62 (by decide) ?_
      refine xG_pick [1, 2, 3, 0] rfl ?_
      exact h
set_option maxRecDepth 20000 in
theorem b_RF_addAttributes_66 {l : Launch} {V : xV} {Q : Int32 → xIt → xJt → xPt → Prop} {I : xIt} {J : xJt} {P : xPt} (hL : xL P) {v1 : Int32} {v2 : Int32} {v3 : Int32} {u0 : Int32} (h : (∃ Q1 : Int32 → xIt → xJt → xPt → Prop, xMet l V y_RF_textB 3 0 0 [xq (some 250), xi u0] xS0 (xu I 250 6 (I 250 4)) J P (xPi Q1) ∧ ∀ (z1 : Int32) (I1 : xIt) (J1 : xJt) (P1 : xPt), Q1 z1 I1 J1 P1 → ((z1 = 0 → G_RF_addAttributes l V Q 124 [(0, xq (some 250)), (1, xi u0), (2, xi v2), (3, xi v3), (4, xi 0)] [xi (-1)] I1 J1 P1) ∧ (¬ z1 = 0 → (∃ Q2 : Int32 → xIt → xJt → xPt → Prop, xMet l V y_RF_take 2 0 0 [xq (some 250), xi 49, xi 255, xi u0] xS0 I1 J1 P1 (xPi Q2) ∧ ∀ (z2 : Int32) (I2 : xIt) (J2 : xJt) (P2 : xPt), Q2 z2 I2 J2 P2 → ((z2 = 0 → G_RF_addAttributes l V Q 124 [(0, xq (some 250)), (1, xi u0), (2, xi v2), (3, xi v3), (4, xi 0)] [xi (-1)] I2 J2 P2) ∧ (¬ z2 = 0 → (∃ Q3 : Int32 → xIt → xJt → xPt → Prop, xMet l V y_RF_typeAt 2 0 0 [xq (some 250), xi (I2 250 14), xi (I2 250 15)] xS0 I2 J2 P2 (xPi Q3) ∧ ∀ (z3 : Int32) (I3 : xIt) (J3 : xJt) (P3 : xPt), Q3 z3 I3 J3 P3 → G_RF_addAttributes l V Q 124 [(0, xq (some 250)), (1, xi u0), (2, xi v2), (3, xi v3), (4, xi 1)] [xi z3] I3 J3 P3)))))))) : G_RF_addAttributes l V Q 66 [(0, xq (some 250)), (1, xi v1), (2, xi v2), (3, xi v3)] [xi u0] I J P := by
  refine xG_istore_n (lv' := [(1, xi u0), (0, xq (some 250)), (2, xi v2), (3, xi v3)]) d_RF_addAttributes_66 rfl (Nat.le_of_ble_eq_true rfl) rfl ?_
  refine xG_aload_n d_RF_addAttributes_67 rfl rfl rfl ?_
  refine xG_aload_n d_RF_addAttributes_68 rfl rfl rfl ?_
  refine xG_geti d_RF_addAttributes_69 xf_RF_86 rfl s0_250 ?_
  refine xG_puti d_RF_addAttributes_72 xf_RF_92 (Or.inl rfl) rfl s0_250 rfl rfl ?_
  refine xG_aload_n d_RF_addAttributes_75 rfl rfl rfl ?_
  refine xG_iload_n d_RF_addAttributes_76 rfl rfl ?_
  obtain ⟨Q1, hM, h⟩ := h
  refine xG_callv (as := [xi u0]) (rest := []) d_RF_addAttributes_77 yv_RF_textB w4_215 rfl rfl rfl s0_250 (by decide) rfl hM ⟨by decide, by decide⟩ (Nat.le_of_ble_eq_true rfl) ⟨Nat.zero_le _, Nat.zero_le _⟩ (fun r S1 I1 J1 P1 hp => ?_)
  obtain ⟨rfl, hL1, z1, rfl, hq⟩ := hp
  have h := h z1 I1 J1 P1 hq
  refine xG_if_eq (tgt := 100) d_RF_addAttributes_80 (by decide) (fun c => ?_) (fun c => ?_)
  · have h := h.1 c
    refine xG_iconst (v := 0) d_RF_addAttributes_100 rfl ?_
    refine xG_istore (lv' := [(4, xi 0), (1, xi u0), (0, xq (some 250)), (2, xi v2), (3, xi v3)]) d_RF_addAttributes_101 (Nat.le_of_ble_eq_true rfl) rfl ?_
    refine xG_iload d_RF_addAttributes_103 rfl ?_
    refine xG_if_eq (tgt := 123) d_RF_addAttributes_105 (by decide) (fun c => ?_) (fun c => absurd c (by decide))
    refine xG_iconst (v := (-1)) d_RF_addAttributes_123 rfl ?_
    refine xG_pick [2, 1, 3, 4, 0] rfl ?_
    exact h
  · have h := h.2 c
    refine xG_aload_n d_RF_addAttributes_83 rfl rfl rfl ?_
    refine xG_bipush (v := 49) d_RF_addAttributes_84 rfl ?_
    refine xG_sipush (v := 255) d_RF_addAttributes_86 rfl ?_
    refine xG_iload_n d_RF_addAttributes_89 rfl rfl ?_
    obtain ⟨Q2, hM, h⟩ := h
    refine xG_callv (as := [xi 49, xi 255, xi u0]) (rest := []) d_RF_addAttributes_90 yv_RF_take w4_191 rfl rfl rfl s0_250 (by decide) rfl hM ⟨by decide, by decide⟩ (Nat.le_of_ble_eq_true rfl) ⟨Nat.zero_le _, Nat.zero_le _⟩ (fun r S2 I2 J2 P2 hp => ?_)
    obtain ⟨rfl, hL2, z2, rfl, hq⟩ := hp
    have h := h z2 I2 J2 P2 hq
    refine xG_if_eq (tgt := 100) d_RF_addAttributes_93 (by decide) (fun c => ?_) (fun c => ?_)
    · have h := h.1 c
      refine xG_iconst (v := 0) d_RF_addAttributes_100 rfl ?_
      refine xG_istore (lv' := [(4, xi 0), (1, xi u0), (0, xq (some 250)), (2, xi v2), (3, xi v3)]) d_RF_addAttributes_101 (Nat.le_of_ble_eq_true rfl) rfl ?_
      refine xG_iload d_RF_addAttributes_103 rfl ?_
      refine xG_if_eq (tgt := 123) d_RF_addAttributes_105 (by decide) (fun c => ?_) (fun c => absurd c (by decide))
      refine xG_iconst (v := (-1)) d_RF_addAttributes_123 rfl ?_
      refine xG_pick [2, 1, 3, 4, 0] rfl ?_
      exact h
    · have h := h.2 c
      refine xG_iconst (v := 1) d_RF_addAttributes_96 rfl ?_
      refine xG_goto (tgt := 101) d_RF_addAttributes_97 (by decide) ?_
      refine xG_istore (lv' := [(4, xi 1), (1, xi u0), (0, xq (some 250)), (2, xi v2), (3, xi v3)]) d_RF_addAttributes_101 (Nat.le_of_ble_eq_true rfl) rfl ?_
      refine xG_iload d_RF_addAttributes_103 rfl ?_
      refine xG_if_eq (tgt := 123) d_RF_addAttributes_105 (by decide) (fun c => absurd c (by decide)) (fun c => ?_)
      refine xG_aload_n d_RF_addAttributes_108 rfl rfl rfl ?_
      refine xG_aload_n d_RF_addAttributes_109 rfl rfl rfl ?_
      refine xG_geti d_RF_addAttributes_110 xf_RF_112 rfl s0_250 ?_
      refine xG_aload_n d_RF_addAttributes_113 rfl rfl rfl ?_
      refine xG_geti d_RF_addAttributes_114 xf_RF_115 rfl s0_250 ?_
      obtain ⟨Q3, hM, h⟩ := h
      refine xG_callv (as := [xi (I2 250 14), xi (I2 250 15)]) (rest := []) d_RF_addAttributes_117 yv_RF_typeAt w5_19 rfl rfl rfl s0_250 (by decide) rfl hM ⟨by decide, by decide⟩ (Nat.le_of_ble_eq_true rfl) ⟨Nat.zero_le _, Nat.zero_le _⟩ (fun r S3 I3 J3 P3 hp => ?_)
      obtain ⟨rfl, hL3, z3, rfl, hq⟩ := hp
      have h := h z3 I3 J3 P3 hq
      refine xG_goto (tgt := 124) d_RF_addAttributes_120 (by decide) ?_
      refine xG_pick [2, 1, 3, 4, 0] rfl ?_
      exact h
set_option maxRecDepth 20000 in
theorem b_RF_addAttributes_124 {l : Launch} {V : xV} {Q : Int32 → xIt → xJt → xPt → Prop} {I : xIt} {J : xJt} {P : xPt} (hL : xL P) {v1 : Int32} {v2 : Int32} {v3 : Int32} {v4 : Int32} {u0 : Int32} (h : ((0 ≤ u0 → (vp_in (60 + u0) 65 ∧ (((I 258 ((60 + u0).toNatClampNeg)) ≤ 0 → (∃ Q1 : Int32 → xIt → xJt → xPt → Prop, xMet l V y_RF_listValues 3 0 0 [xq (some 250), xi (I 250 4), xi (I 250 5)] xS0 I J P (xPi Q1) ∧ ∀ (z1 : Int32) (I1 : xIt) (J1 : xJt) (P1 : xPt), Q1 z1 I1 J1 P1 → ((z1 = 0 → G_RF_addAttributes l V Q 180 [(0, xq (some 250)), (1, xi v1), (2, xi v2), (3, xi v3), (4, xi v4), (5, xi u0), (6, xi z1)] [xi 21] I1 J1 P1) ∧ (¬ z1 = 0 → (∃ Q2 : Int32 → xIt → xJt → xPt → Prop, xMet l V y_RF_judgeValues 4 0 0 [xq (some 250), xi u0] xS0 I1 J1 P1 (xPi Q2) ∧ ∀ (z2 : Int32) (I2 : xIt) (J2 : xJt) (P2 : xPt), Q2 z2 I2 J2 P2 → G_RF_addAttributes l V Q 180 [(0, xq (some 250)), (1, xi v1), (2, xi v2), (3, xi v3), (4, xi v4), (5, xi u0), (6, xi z1)] [xi z2] I2 J2 P2))))) ∧ (¬ (I 258 ((60 + u0).toNatClampNeg)) ≤ 0 → Q 20 I J P)))) ∧ (¬ 0 ≤ u0 → Q 17 I J P))) : G_RF_addAttributes l V Q 124 [(0, xq (some 250)), (1, xi v1), (2, xi v2), (3, xi v3), (4, xi v4)] [xi u0] I J P := by
  refine xG_istore (lv' := [(5, xi u0), (0, xq (some 250)), (1, xi v1), (2, xi v2), (3, xi v3), (4, xi v4)]) d_RF_addAttributes_124 (Nat.le_of_ble_eq_true rfl) rfl ?_
  refine xG_iload d_RF_addAttributes_126 rfl ?_
  refine xG_if_ge (tgt := 134) d_RF_addAttributes_128 (by decide) (fun c => ?_) (fun c => ?_)
  · have h := h.1 c
    refine xG_aload_n d_RF_addAttributes_134 rfl rfl rfl ?_
    refine xG_getq d_RF_addAttributes_135 xf_RF_31 rfl s0_250 ?_
    refine xG_bipush (v := 60) d_RF_addAttributes_138 rfl ?_
    refine xG_iload d_RF_addAttributes_140 rfl ?_
    refine xG_iadd d_RF_addAttributes_142 ?_
    refine xG_iald d_RF_addAttributes_143 (lp_250_28 hL) s0_258 h.1 ?_
    have h := h.2
    refine xG_topi (x' := I 258 ((60 + u0).toNatClampNeg)) (by first | rfl | exact xu_at | simp [xu]) ?_
    refine xG_if_le (tgt := 150) d_RF_addAttributes_144 (by decide) (fun c => ?_) (fun c => ?_)
    · have h := h.1 c
      refine xG_aload_n d_RF_addAttributes_150 rfl rfl rfl ?_
      refine xG_aload_n d_RF_addAttributes_151 rfl rfl rfl ?_
      refine xG_geti d_RF_addAttributes_152 xf_RF_86 rfl s0_250 ?_
      refine xG_aload_n d_RF_addAttributes_155 rfl rfl rfl ?_
      refine xG_geti d_RF_addAttributes_156 xf_RF_89 rfl s0_250 ?_
      obtain ⟨Q1, hM, h⟩ := h
      refine xG_callv (as := [xi (I 250 4), xi (I 250 5)]) (rest := []) d_RF_addAttributes_159 yv_RF_listValues w4_223 rfl rfl rfl s0_250 (by decide) rfl hM ⟨by decide, by decide⟩ (Nat.le_of_ble_eq_true rfl) ⟨Nat.zero_le _, Nat.zero_le _⟩ (fun r S1 I1 J1 P1 hp => ?_)
      obtain ⟨rfl, hL1, z1, rfl, hq⟩ := hp
      have h := h z1 I1 J1 P1 hq
      refine xG_istore (lv' := [(6, xi z1), (5, xi u0), (0, xq (some 250)), (1, xi v1), (2, xi v2), (3, xi v3), (4, xi v4)]) d_RF_addAttributes_162 (Nat.le_of_ble_eq_true rfl) rfl ?_
      refine xG_iload d_RF_addAttributes_164 rfl ?_
      refine xG_if_eq (tgt := 178) d_RF_addAttributes_166 (by decide) (fun c => ?_) (fun c => ?_)
      · have h := h.1 c
        refine xG_bipush (v := 21) d_RF_addAttributes_178 rfl ?_
        refine xG_pick [2, 3, 4, 5, 6, 1, 0] rfl ?_
        exact h
      · have h := h.2 c
        refine xG_aload_n d_RF_addAttributes_169 rfl rfl rfl ?_
        refine xG_iload d_RF_addAttributes_170 rfl ?_
        obtain ⟨Q2, hM, h⟩ := h
        refine xG_callv (as := [xi u0]) (rest := []) d_RF_addAttributes_172 yv_RF_judgeValues w5_82 rfl rfl rfl s0_250 (by decide) rfl hM ⟨by decide, by decide⟩ (Nat.le_of_ble_eq_true rfl) ⟨Nat.zero_le _, Nat.zero_le _⟩ (fun r S2 I2 J2 P2 hp => ?_)
        obtain ⟨rfl, hL2, z2, rfl, hq⟩ := hp
        have h := h z2 I2 J2 P2 hq
        refine xG_goto (tgt := 180) d_RF_addAttributes_175 (by decide) ?_
        refine xG_pick [2, 3, 4, 5, 6, 1, 0] rfl ?_
        exact h
    · have h := h.2 c
      refine xG_bipush (v := 20) d_RF_addAttributes_147 rfl ?_
      exact xG_ireturn d_RF_addAttributes_149 rfl rfl ⟨rfl, hL, _, rfl, h⟩
  · have h := h.2 c
    refine xG_bipush (v := 17) d_RF_addAttributes_131 rfl ?_
    exact xG_ireturn d_RF_addAttributes_133 rfl rfl ⟨rfl, hL, _, rfl, h⟩
set_option maxRecDepth 20000 in
theorem b_RF_addAttributes_180 {l : Launch} {V : xV} {Q : Int32 → xIt → xJt → xPt → Prop} {I : xIt} {J : xJt} {P : xPt} (hL : xL P) {v1 : Int32} {v2 : Int32} {v3 : Int32} {v4 : Int32} {v5 : Int32} {v6 : Int32} {u0 : Int32} (h : ((u0 = 0 → (∃ Q1 : Int32 → xIt → xJt → xPt → Prop, xMet l V y_RF_most 1 0 0 [xi v5] xS0 I J P (xPi Q1) ∧ ∀ (z1 : Int32) (I1 : xIt) (J1 : xJt) (P1 : xPt), Q1 z1 I1 J1 P1 → (((I 250 18) ≤ z1 → (∃ Q2 : xIt → xJt → xPt → Prop, xMet l V y_RF_appendValues 4 0 0 [xq (some 250), xi 12, xi v5] xS0 I1 J1 P1 (xPv Q2) ∧ ∀ (I2 : xIt) (J2 : xJt) (P2 : xPt), Q2 I2 J2 P2 → G_RF_addAttributes l V Q 33 [(0, xq (some 250)), (1, xi v1), (2, xi v2), (3, xi v3)] [] I2 J2 P2)) ∧ (¬ (I 250 18) ≤ z1 → Q 19 I1 J1 P1)))) ∧ (¬ u0 = 0 → Q u0 I J P))) : G_RF_addAttributes l V Q 180 [(0, xq (some 250)), (1, xi v1), (2, xi v2), (3, xi v3), (4, xi v4), (5, xi v5), (6, xi v6)] [xi u0] I J P := by
  refine xG_istore (lv' := [(7, xi u0), (0, xq (some 250)), (1, xi v1), (2, xi v2), (3, xi v3), (4, xi v4), (5, xi v5), (6, xi v6)]) d_RF_addAttributes_180 (Nat.le_of_ble_eq_true rfl) rfl ?_
  refine xG_iload d_RF_addAttributes_182 rfl ?_
  refine xG_if_eq (tgt := 190) d_RF_addAttributes_184 (by decide) (fun c => ?_) (fun c => ?_)
  · have h := h.1 c
    refine xG_aload_n d_RF_addAttributes_190 rfl rfl rfl ?_
    refine xG_geti d_RF_addAttributes_191 xf_RF_124 rfl s0_250 ?_
    refine xG_iload d_RF_addAttributes_194 rfl ?_
    obtain ⟨Q1, hM, h⟩ := h
    refine xG_calls (as := [xi v5]) (rest := [xi (I 250 18)]) d_RF_addAttributes_196 ys_RF_most w5_90 rfl rfl hM ⟨by decide, by decide⟩ (Nat.le_of_ble_eq_true rfl) ⟨Nat.zero_le _, Nat.zero_le _⟩ (fun r S1 I1 J1 P1 hp => ?_)
    obtain ⟨rfl, hL1, z1, rfl, hq⟩ := hp
    have h := h z1 I1 J1 P1 hq
    refine xG_icmp_le (tgt := 205) d_RF_addAttributes_199 (by decide) (fun c => ?_) (fun c => ?_)
    · have h := h.1 c
      refine xG_aload_n d_RF_addAttributes_205 rfl rfl rfl ?_
      refine xG_bipush (v := 12) d_RF_addAttributes_206 rfl ?_
      refine xG_iload d_RF_addAttributes_208 rfl ?_
      obtain ⟨Q2, hM, h⟩ := h
      refine xG_callv (as := [xi 12, xi v5]) (rest := []) d_RF_addAttributes_210 yv_RF_appendValues w5_93 rfl rfl rfl s0_250 (by decide) rfl hM ⟨by decide, by decide⟩ (Nat.le_of_ble_eq_true rfl) ⟨Nat.zero_le _, Nat.zero_le _⟩ (fun r S2 I2 J2 P2 hp => ?_)
      obtain ⟨rfl, hL2, rfl, hq⟩ := hp
      have h := h I2 J2 P2 hq
      refine xG_goto (tgt := 33) d_RF_addAttributes_213 (by decide) ?_
      refine xG_pick [1, 2, 3, 4] rfl ?_
      exact h
    · have h := h.2 c
      refine xG_bipush (v := 19) d_RF_addAttributes_202 rfl ?_
      exact xG_ireturn d_RF_addAttributes_204 rfl rfl ⟨rfl, hL1, _, rfl, h⟩
  · have h := h.2 c
    refine xG_iload d_RF_addAttributes_187 rfl ?_
    exact xG_ireturn d_RF_addAttributes_189 rfl rfl ⟨rfl, hL, _, rfl, h⟩
theorem e_RF_addAttributes {l : Launch} {V : xV} {Q : Int32 → xIt → xJt → xPt → Prop} {I : xIt} {J : xJt} {P : xPt}  (h : G_RF_addAttributes l V Q 0 [(0, xq (some 250))] [] I J P) : xMet l V y_RF_addAttributes 5 0 0 [xq (some 250)] xS0 I J P (xPi Q) := xMet_of (by decide) (Nat.le_of_ble_eq_true rfl) h

abbrev G_RF_add (l : Launch) (V : xV) (Q : Int32 → xIt → xJt → xPt → Prop) (pc : Nat) (lv : List (Nat × xX)) (st : List xX) (I : xIt) (J : xJt) (P : xPt) : Prop := xG l V y_RF_add (xR 6 0 0) (xFn V y_RF_add (xR 6 0 0) (xPi Q)) pc lv st xS0 I J P (0, 0)
set_option maxRecDepth 20000 in
theorem b_RF_add_0 {l : Launch} {V : xV} {Q : Int32 → xIt → xJt → xPt → Prop} {I : xIt} {J : xJt} {P : xPt} (hL : xL P)  (h : (∃ Q1 : Int32 → xIt → xJt → xPt → Prop, xMet l V y_RF_readName 4 0 0 [xq (some 250), xi (I 250 12), xi (I 250 13)] xS0 I J P (xPi Q1) ∧ ∀ (z1 : Int32) (I1 : xIt) (J1 : xJt) (P1 : xPt), Q1 z1 I1 J1 P1 → ((0 ≤ z1 → (∃ Q2 : Int32 → xIt → xJt → xPt → Prop, xMet l V y_RF_addAttributes 5 0 0 [xq (some 250)] xS0 I1 J1 P1 (xPi Q2) ∧ ∀ (z2 : Int32) (I2 : xIt) (J2 : xJt) (P2 : xPt), Q2 z2 I2 J2 P2 → ((z2 = 0 → (∃ Q3 : Int32 → xIt → xJt → xPt → Prop, xMet l V y_RF_readName 4 0 0 [xq (some 250), xi (I2 250 12), xi (I2 250 13)] xS0 I2 J2 P2 (xPi Q3) ∧ ∀ (z3 : Int32) (I3 : xIt) (J3 : xJt) (P3 : xPt), Q3 z3 I3 J3 P3 → ((z3 = 0 → Q 68 I3 J3 P3) ∧ (¬ z3 = 0 → (∃ Q4 : Int32 → xIt → xJt → xPt → Prop, xMet l V y_RF_entryNamed 2 0 0 [xq (some 250), xi 0] xS0 I3 J3 P3 (xPi Q4) ∧ ∀ (z4 : Int32) (I4 : xIt) (J4 : xJt) (P4 : xPt), Q4 z4 I4 J4 P4 → ((z4 < 0 → (∃ Q5 : Int32 → xIt → xJt → xPt → Prop, xMet l V y_RF_entryNamed 2 0 0 [xq (some 250), xi 1] xS0 I4 J4 P4 (xPi Q5) ∧ ∀ (z5 : Int32) (I5 : xIt) (J5 : xJt) (P5 : xPt), Q5 z5 I5 J5 P5 → ((¬ z5 = (-2) → ((¬ (I5 250 27) = 12 → (∃ Q6 : Int32 → xIt → xJt → xPt → Prop, xMet l V y_RF_fits 4 0 0 [xq (some 250), xi 12] xS0 I5 J5 P5 (xPi Q6) ∧ ∀ (z6 : Int32) (I6 : xIt) (J6 : xJt) (P6 : xPt), Q6 z6 I6 J6 P6 → ((¬ z6 = 0 → (∃ Q7 : xIt → xJt → xPt → Prop, xMet l V y_RF_setPart 1 0 0 [xq (some 250), xi 12] xS0 (xu I6 263 12 z5) J6 P6 (xPv Q7) ∧ ∀ (I7 : xIt) (J7 : xJt) (P7 : xPt), Q7 I7 J7 P7 → (∃ Q8 : Int32 → xIt → xJt → xPt → Prop, xMet l V y_RF_hasPart 2 0 0 [xq (some 250), xi 12] xS0 I7 J7 P7 (xPi Q8) ∧ ∀ (z8 : Int32) (I8 : xIt) (J8 : xJt) (P8 : xPt), Q8 z8 I8 J8 P8 → ((¬ z8 = 0 → (∃ Q9 : xIt → xJt → xPt → Prop, xMet l V y_RF_copyEntry 2 0 0 [xq (some 250), xi 12, xi (I8 250 27)] xS0 I8 J8 P8 (xPv Q9) ∧ ∀ (I9 : xIt) (J9 : xJt) (P9 : xPt), Q9 I9 J9 P9 → Q 0 (xu I9 250 27 ((I9 250 27) + 1)) J9 P9)) ∧ (z8 = 0 → Q 64 I8 J8 P8))))) ∧ (z6 = 0 → Q 65 I6 J6 P6)))) ∧ ((I5 250 27) = 12 → Q 53 I5 J5 P5))) ∧ (z5 = (-2) → Q 32 I5 J5 P5)))) ∧ (¬ z4 < 0 → Q 68 I4 J4 P4))))))) ∧ (¬ z2 = 0 → Q z2 I2 J2 P2)))) ∧ (¬ 0 ≤ z1 → Q 34 I1 J1 P1)))) : G_RF_add l V Q 0 [(0, xq (some 250))] [] I J P := by
  refine xG_aload_n d_RF_add_0 rfl rfl rfl ?_
  refine xG_aload_n d_RF_add_1 rfl rfl rfl ?_
  refine xG_geti d_RF_add_2 xf_RF_106 rfl s0_250 ?_
  refine xG_aload_n d_RF_add_5 rfl rfl rfl ?_
  refine xG_geti d_RF_add_6 xf_RF_109 rfl s0_250 ?_
  obtain ⟨Q1, hM, h⟩ := h
  refine xG_callv (as := [xi (I 250 12), xi (I 250 13)]) (rest := []) d_RF_add_9 yv_RF_readName w5_15 rfl rfl rfl s0_250 (by decide) rfl hM ⟨by decide, by decide⟩ (Nat.le_of_ble_eq_true rfl) ⟨Nat.zero_le _, Nat.zero_le _⟩ (fun r S1 I1 J1 P1 hp => ?_)
  obtain ⟨rfl, hL1, z1, rfl, hq⟩ := hp
  have h := h z1 I1 J1 P1 hq
  refine xG_if_ge (tgt := 18) d_RF_add_12 (by decide) (fun c => ?_) (fun c => ?_)
  · have h := h.1 c
    refine xG_aload_n d_RF_add_18 rfl rfl rfl ?_
    obtain ⟨Q2, hM, h⟩ := h
    refine xG_callv (as := []) (rest := []) d_RF_add_19 yv_RF_addAttributes w5_78 rfl rfl rfl s0_250 (by decide) rfl hM ⟨by decide, by decide⟩ (Nat.le_of_ble_eq_true rfl) ⟨Nat.zero_le _, Nat.zero_le _⟩ (fun r S2 I2 J2 P2 hp => ?_)
    obtain ⟨rfl, hL2, z2, rfl, hq⟩ := hp
    have h := h z2 I2 J2 P2 hq
    refine xG_istore_n (lv' := [(1, xi z2), (0, xq (some 250))]) d_RF_add_22 rfl (Nat.le_of_ble_eq_true rfl) rfl ?_
    refine xG_iload_n d_RF_add_23 rfl rfl ?_
    refine xG_if_eq (tgt := 29) d_RF_add_24 (by decide) (fun c => ?_) (fun c => ?_)
    · have h := h.1 c
      refine xG_aload_n d_RF_add_29 rfl rfl rfl ?_
      refine xG_aload_n d_RF_add_30 rfl rfl rfl ?_
      refine xG_geti d_RF_add_31 xf_RF_106 rfl s0_250 ?_
      refine xG_aload_n d_RF_add_34 rfl rfl rfl ?_
      refine xG_geti d_RF_add_35 xf_RF_109 rfl s0_250 ?_
      obtain ⟨Q3, hM, h⟩ := h
      refine xG_callv (as := [xi (I2 250 12), xi (I2 250 13)]) (rest := []) d_RF_add_38 yv_RF_readName w5_15 rfl rfl rfl s0_250 (by decide) rfl hM ⟨by decide, by decide⟩ (Nat.le_of_ble_eq_true rfl) ⟨Nat.zero_le _, Nat.zero_le _⟩ (fun r S3 I3 J3 P3 hp => ?_)
      obtain ⟨rfl, hL3, z3, rfl, hq⟩ := hp
      have h := h z3 I3 J3 P3 hq
      refine xG_istore_n (lv' := [(2, xi z3), (1, xi z2), (0, xq (some 250))]) d_RF_add_41 rfl (Nat.le_of_ble_eq_true rfl) rfl ?_
      refine xG_iload_n d_RF_add_42 rfl rfl ?_
      refine xG_if_eq (tgt := 54) d_RF_add_43 (by decide) (fun c => ?_) (fun c => ?_)
      · have h := h.1 c
        refine xG_bipush (v := 68) d_RF_add_54 rfl ?_
        exact xG_ireturn d_RF_add_56 rfl rfl ⟨rfl, hL3, _, rfl, h⟩
      · have h := h.2 c
        refine xG_aload_n d_RF_add_46 rfl rfl rfl ?_
        refine xG_iconst (v := 0) d_RF_add_47 rfl ?_
        obtain ⟨Q4, hM, h⟩ := h
        refine xG_callv (as := [xi 0]) (rest := []) d_RF_add_48 yv_RF_entryNamed w5_42 rfl rfl rfl s0_250 (by decide) rfl hM ⟨by decide, by decide⟩ (Nat.le_of_ble_eq_true rfl) ⟨Nat.zero_le _, Nat.zero_le _⟩ (fun r S4 I4 J4 P4 hp => ?_)
        obtain ⟨rfl, hL4, z4, rfl, hq⟩ := hp
        have h := h z4 I4 J4 P4 hq
        refine xG_if_lt (tgt := 57) d_RF_add_51 (by decide) (fun c => ?_) (fun c => ?_)
        · have h := h.1 c
          refine xG_aload_n d_RF_add_57 rfl rfl rfl ?_
          refine xG_iconst (v := 1) d_RF_add_58 rfl ?_
          obtain ⟨Q5, hM, h⟩ := h
          refine xG_callv (as := [xi 1]) (rest := []) d_RF_add_59 yv_RF_entryNamed w5_42 rfl rfl rfl s0_250 (by decide) rfl hM ⟨by decide, by decide⟩ (Nat.le_of_ble_eq_true rfl) ⟨Nat.zero_le _, Nat.zero_le _⟩ (fun r S5 I5 J5 P5 hp => ?_)
          obtain ⟨rfl, hL5, z5, rfl, hq⟩ := hp
          have h := h z5 I5 J5 P5 hq
          refine xG_istore_n (lv' := [(3, xi z5), (2, xi z3), (1, xi z2), (0, xq (some 250))]) d_RF_add_62 rfl (Nat.le_of_ble_eq_true rfl) rfl ?_
          refine xG_iload_n d_RF_add_63 rfl rfl ?_
          refine xG_bipush (v := (-2)) d_RF_add_64 rfl ?_
          refine xG_icmp_ne (tgt := 72) d_RF_add_66 (by decide) (fun c => ?_) (fun c => ?_)
          · have h := h.1 c
            refine xG_aload_n d_RF_add_72 rfl rfl rfl ?_
            refine xG_geti d_RF_add_73 xf_RF_211 rfl s0_250 ?_
            refine xG_bipush (v := 12) d_RF_add_76 rfl ?_
            refine xG_icmp_ne (tgt := 84) d_RF_add_78 (by decide) (fun c => ?_) (fun c => ?_)
            · have h := h.1 c
              refine xG_aload_n d_RF_add_84 rfl rfl rfl ?_
              refine xG_bipush (v := 12) d_RF_add_85 rfl ?_
              obtain ⟨Q6, hM, h⟩ := h
              refine xG_callv (as := [xi 12]) (rest := []) d_RF_add_87 yv_RF_fits w5_101 rfl rfl rfl s0_250 (by decide) rfl hM ⟨by decide, by decide⟩ (Nat.le_of_ble_eq_true rfl) ⟨Nat.zero_le _, Nat.zero_le _⟩ (fun r S6 I6 J6 P6 hp => ?_)
              obtain ⟨rfl, hL6, z6, rfl, hq⟩ := hp
              have h := h z6 I6 J6 P6 hq
              refine xG_if_ne (tgt := 96) d_RF_add_90 (by decide) (fun c => ?_) (fun c => ?_)
              · have h := h.1 c
                refine xG_aload_n d_RF_add_96 rfl rfl rfl ?_
                refine xG_getq d_RF_add_97 xf_RF_46 rfl s0_250 ?_
                refine xG_bipush (v := 12) d_RF_add_100 rfl ?_
                refine xG_iload_n d_RF_add_102 rfl rfl ?_
                refine xG_iast d_RF_add_103 (lp_250_33 hL6) s0_263 (x_vp (by decide)) ?_
                refine xG_hI (I' := (xu I6 263 12 z5)) rfl ?_
                refine xG_aload_n d_RF_add_104 rfl rfl rfl ?_
                refine xG_bipush (v := 12) d_RF_add_105 rfl ?_
                obtain ⟨Q7, hM, h⟩ := h
                refine xG_callv (as := [xi 12]) (rest := []) d_RF_add_107 yv_RF_setPart w5_113 rfl rfl rfl s0_250 (by decide) rfl hM ⟨by decide, by decide⟩ (Nat.le_of_ble_eq_true rfl) ⟨Nat.zero_le _, Nat.zero_le _⟩ (fun r S7 I7 J7 P7 hp => ?_)
                obtain ⟨rfl, hL7, rfl, hq⟩ := hp
                have h := h I7 J7 P7 hq
                refine xG_aload_n d_RF_add_110 rfl rfl rfl ?_
                refine xG_bipush (v := 12) d_RF_add_111 rfl ?_
                obtain ⟨Q8, hM, h⟩ := h
                refine xG_callv (as := [xi 12]) (rest := []) d_RF_add_113 yv_RF_hasPart w5_117 rfl rfl rfl s0_250 (by decide) rfl hM ⟨by decide, by decide⟩ (Nat.le_of_ble_eq_true rfl) ⟨Nat.zero_le _, Nat.zero_le _⟩ (fun r S8 I8 J8 P8 hp => ?_)
                obtain ⟨rfl, hL8, z8, rfl, hq⟩ := hp
                have h := h z8 I8 J8 P8 hq
                refine xG_if_ne (tgt := 122) d_RF_add_116 (by decide) (fun c => ?_) (fun c => ?_)
                · have h := h.1 c
                  refine xG_aload_n d_RF_add_122 rfl rfl rfl ?_
                  refine xG_bipush (v := 12) d_RF_add_123 rfl ?_
                  refine xG_aload_n d_RF_add_125 rfl rfl rfl ?_
                  refine xG_geti d_RF_add_126 xf_RF_211 rfl s0_250 ?_
                  obtain ⟨Q9, hM, h⟩ := h
                  refine xG_callv (as := [xi 12, xi (I8 250 27)]) (rest := []) d_RF_add_129 yv_RF_copyEntry w5_121 rfl rfl rfl s0_250 (by decide) rfl hM ⟨by decide, by decide⟩ (Nat.le_of_ble_eq_true rfl) ⟨Nat.zero_le _, Nat.zero_le _⟩ (fun r S9 I9 J9 P9 hp => ?_)
                  obtain ⟨rfl, hL9, rfl, hq⟩ := hp
                  have h := h I9 J9 P9 hq
                  refine xG_aload_n d_RF_add_132 rfl rfl rfl ?_
                  refine xG_dup d_RF_add_133 rfl ?_
                  refine xG_geti d_RF_add_134 xf_RF_211 rfl s0_250 ?_
                  refine xG_iconst (v := 1) d_RF_add_137 rfl ?_
                  refine xG_iadd d_RF_add_138 ?_
                  refine xG_puti d_RF_add_139 xf_RF_211 (Or.inl rfl) rfl s0_250 rfl rfl ?_
                  refine xG_iconst (v := 0) d_RF_add_142 rfl ?_
                  exact xG_ireturn d_RF_add_143 rfl rfl ⟨rfl, hL9, _, rfl, h⟩
                · have h := h.2 c
                  refine xG_bipush (v := 64) d_RF_add_119 rfl ?_
                  exact xG_ireturn d_RF_add_121 rfl rfl ⟨rfl, hL8, _, rfl, h⟩
              · have h := h.2 c
                refine xG_bipush (v := 65) d_RF_add_93 rfl ?_
                exact xG_ireturn d_RF_add_95 rfl rfl ⟨rfl, hL6, _, rfl, h⟩
            · have h := h.2 c
              refine xG_bipush (v := 53) d_RF_add_81 rfl ?_
              exact xG_ireturn d_RF_add_83 rfl rfl ⟨rfl, hL5, _, rfl, h⟩
          · have h := h.2 c
            refine xG_bipush (v := 32) d_RF_add_69 rfl ?_
            exact xG_ireturn d_RF_add_71 rfl rfl ⟨rfl, hL5, _, rfl, h⟩
        · have h := h.2 c
          refine xG_bipush (v := 68) d_RF_add_54 rfl ?_
          exact xG_ireturn d_RF_add_56 rfl rfl ⟨rfl, hL4, _, rfl, h⟩
    · have h := h.2 c
      refine xG_iload_n d_RF_add_27 rfl rfl ?_
      exact xG_ireturn d_RF_add_28 rfl rfl ⟨rfl, hL2, _, rfl, h⟩
  · have h := h.2 c
    refine xG_bipush (v := 34) d_RF_add_15 rfl ?_
    exact xG_ireturn d_RF_add_17 rfl rfl ⟨rfl, hL1, _, rfl, h⟩
theorem e_RF_add {l : Launch} {V : xV} {Q : Int32 → xIt → xJt → xPt → Prop} {I : xIt} {J : xJt} {P : xPt}  (h : G_RF_add l V Q 0 [(0, xq (some 250))] [] I J P) : xMet l V y_RF_add 6 0 0 [xq (some 250)] xS0 I J P (xPi Q) := xMet_of (by decide) (Nat.le_of_ble_eq_true rfl) h

abbrev G_RF_delete (l : Launch) (V : xV) (Q : Int32 → xIt → xJt → xPt → Prop) (pc : Nat) (lv : List (Nat × xX)) (st : List xX) (I : xIt) (J : xJt) (P : xPt) : Prop := xG l V y_RF_delete (xR 5 0 0) (xFn V y_RF_delete (xR 5 0 0) (xPi Q)) pc lv st xS0 I J P (0, 0)
set_option maxRecDepth 20000 in
theorem b_RF_delete_0 {l : Launch} {V : xV} {Q : Int32 → xIt → xJt → xPt → Prop} {I : xIt} {J : xJt} {P : xPt} (hL : xL P)  (h : (∃ Q1 : Int32 → xIt → xJt → xPt → Prop, xMet l V y_RF_readName 4 0 0 [xq (some 250), xi (I 250 12), xi (I 250 13)] xS0 I J P (xPi Q1) ∧ ∀ (z1 : Int32) (I1 : xIt) (J1 : xJt) (P1 : xPt), Q1 z1 I1 J1 P1 → ((0 ≤ z1 → (∃ Q2 : Int32 → xIt → xJt → xPt → Prop, xMet l V y_RF_entryNamed 2 0 0 [xq (some 250), xi 0] xS0 I1 J1 P1 (xPi Q2) ∧ ∀ (z2 : Int32) (I2 : xIt) (J2 : xJt) (P2 : xPt), Q2 z2 I2 J2 P2 → ((0 ≤ z2 → G_RF_delete l V Q 33 [(0, xq (some 250)), (1, xi z2), (2, xi 0)] [] I2 J2 P2) ∧ (¬ 0 ≤ z2 → Q 32 I2 J2 P2)))) ∧ (¬ 0 ≤ z1 → Q 34 I1 J1 P1)))) : G_RF_delete l V Q 0 [(0, xq (some 250))] [] I J P := by
  refine xG_aload_n d_RF_delete_0 rfl rfl rfl ?_
  refine xG_aload_n d_RF_delete_1 rfl rfl rfl ?_
  refine xG_geti d_RF_delete_2 xf_RF_106 rfl s0_250 ?_
  refine xG_aload_n d_RF_delete_5 rfl rfl rfl ?_
  refine xG_geti d_RF_delete_6 xf_RF_109 rfl s0_250 ?_
  obtain ⟨Q1, hM, h⟩ := h
  refine xG_callv (as := [xi (I 250 12), xi (I 250 13)]) (rest := []) d_RF_delete_9 yv_RF_readName w5_15 rfl rfl rfl s0_250 (by decide) rfl hM ⟨by decide, by decide⟩ (Nat.le_of_ble_eq_true rfl) ⟨Nat.zero_le _, Nat.zero_le _⟩ (fun r S1 I1 J1 P1 hp => ?_)
  obtain ⟨rfl, hL1, z1, rfl, hq⟩ := hp
  have h := h z1 I1 J1 P1 hq
  refine xG_if_ge (tgt := 18) d_RF_delete_12 (by decide) (fun c => ?_) (fun c => ?_)
  · have h := h.1 c
    refine xG_aload_n d_RF_delete_18 rfl rfl rfl ?_
    refine xG_iconst (v := 0) d_RF_delete_19 rfl ?_
    obtain ⟨Q2, hM, h⟩ := h
    refine xG_callv (as := [xi 0]) (rest := []) d_RF_delete_20 yv_RF_entryNamed w5_42 rfl rfl rfl s0_250 (by decide) rfl hM ⟨by decide, by decide⟩ (Nat.le_of_ble_eq_true rfl) ⟨Nat.zero_le _, Nat.zero_le _⟩ (fun r S2 I2 J2 P2 hp => ?_)
    obtain ⟨rfl, hL2, z2, rfl, hq⟩ := hp
    have h := h z2 I2 J2 P2 hq
    refine xG_istore_n (lv' := [(1, xi z2), (0, xq (some 250))]) d_RF_delete_23 rfl (Nat.le_of_ble_eq_true rfl) rfl ?_
    refine xG_iload_n d_RF_delete_24 rfl rfl ?_
    refine xG_if_ge (tgt := 31) d_RF_delete_25 (by decide) (fun c => ?_) (fun c => ?_)
    · have h := h.1 c
      refine xG_iconst (v := 0) d_RF_delete_31 rfl ?_
      refine xG_istore_n (lv' := [(2, xi 0), (1, xi z2), (0, xq (some 250))]) d_RF_delete_32 rfl (Nat.le_of_ble_eq_true rfl) rfl ?_
      refine xG_pick [2, 1, 0] rfl ?_
      exact h
    · have h := h.2 c
      refine xG_bipush (v := 32) d_RF_delete_28 rfl ?_
      exact xG_ireturn d_RF_delete_30 rfl rfl ⟨rfl, hL2, _, rfl, h⟩
  · have h := h.2 c
    refine xG_bipush (v := 34) d_RF_delete_15 rfl ?_
    exact xG_ireturn d_RF_delete_17 rfl rfl ⟨rfl, hL1, _, rfl, h⟩
set_option maxRecDepth 20000 in
theorem b_RF_delete_33 {l : Launch} {V : xV} {Q : Int32 → xIt → xJt → xPt → Prop} {I : xIt} {J : xJt} {P : xPt} (hL : xL P) {v1 : Int32} {v2 : Int32} (h : (((I 250 27) ≤ v2 → G_RF_delete l V Q 72 [(0, xq (some 250)), (1, xi v1), (2, xi v1)] [] (xu I 250 27 ((I 250 27) - 1)) J P) ∧ (¬ (I 250 27) ≤ v2 → (vp_in v2 13 ∧ ((¬ (I 263 v2.toNatClampNeg) = v1 → G_RF_delete l V Q 33 [(0, xq (some 250)), (1, xi v1), (2, xi (v2 + 1))] [] I J P) ∧ ((I 263 v2.toNatClampNeg) = v1 → Q 66 I J P)))))) : G_RF_delete l V Q 33 [(0, xq (some 250)), (1, xi v1), (2, xi v2)] [] I J P := by
  refine xG_iload_n d_RF_delete_33 rfl rfl ?_
  refine xG_aload_n d_RF_delete_34 rfl rfl rfl ?_
  refine xG_geti d_RF_delete_35 xf_RF_211 rfl s0_250 ?_
  refine xG_icmp_ge (tgt := 60) d_RF_delete_38 (by decide) (fun c => ?_) (fun c => ?_)
  · have h := h.1 c
    refine xG_aload_n d_RF_delete_60 rfl rfl rfl ?_
    refine xG_dup d_RF_delete_61 rfl ?_
    refine xG_geti d_RF_delete_62 xf_RF_211 rfl s0_250 ?_
    refine xG_iconst (v := 1) d_RF_delete_65 rfl ?_
    refine xG_isub d_RF_delete_66 ?_
    refine xG_puti d_RF_delete_67 xf_RF_211 (Or.inl rfl) rfl s0_250 rfl rfl ?_
    refine xG_iload_n d_RF_delete_70 rfl rfl ?_
    refine xG_istore_n (lv' := [(2, xi v1), (0, xq (some 250)), (1, xi v1)]) d_RF_delete_71 rfl (Nat.le_of_ble_eq_true rfl) rfl ?_
    refine xG_pick [1, 2, 0] rfl ?_
    exact h
  · have h := h.2 c
    refine xG_aload_n d_RF_delete_41 rfl rfl rfl ?_
    refine xG_getq d_RF_delete_42 xf_RF_46 rfl s0_250 ?_
    refine xG_iload_n d_RF_delete_45 rfl rfl ?_
    refine xG_iald d_RF_delete_46 (lp_250_33 hL) s0_263 h.1 ?_
    have h := h.2
    refine xG_iload_n d_RF_delete_47 rfl rfl ?_
    refine xG_icmp_ne (tgt := 54) d_RF_delete_48 (by decide) (fun c => ?_) (fun c => ?_)
    · have h := h.1 c
      refine xG_iinc (v := v2 + 1) (lv' := [(2, xi (v2 + 1)), (0, xq (some 250)), (1, xi v1)]) d_RF_delete_54 rfl rfl (Nat.le_of_ble_eq_true rfl) rfl ?_
      refine xG_goto (tgt := 33) d_RF_delete_57 (by decide) ?_
      refine xG_pick [1, 2, 0] rfl ?_
      exact h
    · have h := h.2 c
      refine xG_bipush (v := 66) d_RF_delete_51 rfl ?_
      exact xG_ireturn d_RF_delete_53 rfl rfl ⟨rfl, hL, _, rfl, h⟩
set_option maxRecDepth 20000 in
theorem b_RF_delete_72 {l : Launch} {V : xV} {Q : Int32 → xIt → xJt → xPt → Prop} {I : xIt} {J : xJt} {P : xPt} (hL : xL P) {v1 : Int32} {v2 : Int32} (h : (((I 250 27) ≤ v2 → G_RF_delete l V Q 96 [(0, xq (some 250)), (1, xi v1), (2, xi 0)] [] I J P) ∧ (¬ (I 250 27) ≤ v2 → (∃ Q1 : xIt → xJt → xPt → Prop, xMet l V y_RF_copyEntry 2 0 0 [xq (some 250), xi (v2 + 1), xi v2] xS0 I J P (xPv Q1) ∧ ∀ (I1 : xIt) (J1 : xJt) (P1 : xPt), Q1 I1 J1 P1 → G_RF_delete l V Q 72 [(0, xq (some 250)), (1, xi v1), (2, xi (v2 + 1))] [] I1 J1 P1)))) : G_RF_delete l V Q 72 [(0, xq (some 250)), (1, xi v1), (2, xi v2)] [] I J P := by
  refine xG_iload_n d_RF_delete_72 rfl rfl ?_
  refine xG_aload_n d_RF_delete_73 rfl rfl rfl ?_
  refine xG_geti d_RF_delete_74 xf_RF_211 rfl s0_250 ?_
  refine xG_icmp_ge (tgt := 94) d_RF_delete_77 (by decide) (fun c => ?_) (fun c => ?_)
  · have h := h.1 c
    refine xG_iconst (v := 0) d_RF_delete_94 rfl ?_
    refine xG_istore_n (lv' := [(2, xi 0), (0, xq (some 250)), (1, xi v1)]) d_RF_delete_95 rfl (Nat.le_of_ble_eq_true rfl) rfl ?_
    refine xG_pick [1, 2, 0] rfl ?_
    exact h
  · have h := h.2 c
    refine xG_aload_n d_RF_delete_80 rfl rfl rfl ?_
    refine xG_iload_n d_RF_delete_81 rfl rfl ?_
    refine xG_iconst (v := 1) d_RF_delete_82 rfl ?_
    refine xG_iadd d_RF_delete_83 ?_
    refine xG_iload_n d_RF_delete_84 rfl rfl ?_
    obtain ⟨Q1, hM, h⟩ := h
    refine xG_callv (as := [xi (v2 + 1), xi v2]) (rest := []) d_RF_delete_85 yv_RF_copyEntry w5_121 rfl rfl rfl s0_250 (by decide) rfl hM ⟨by decide, by decide⟩ (Nat.le_of_ble_eq_true rfl) ⟨Nat.zero_le _, Nat.zero_le _⟩ (fun r S1 I1 J1 P1 hp => ?_)
    obtain ⟨rfl, hL1, rfl, hq⟩ := hp
    have h := h I1 J1 P1 hq
    refine xG_iinc (v := v2 + 1) (lv' := [(2, xi (v2 + 1)), (0, xq (some 250)), (1, xi v1)]) d_RF_delete_88 rfl rfl (Nat.le_of_ble_eq_true rfl) rfl ?_
    refine xG_goto (tgt := 72) d_RF_delete_91 (by decide) ?_
    refine xG_pick [1, 2, 0] rfl ?_
    exact h
set_option maxRecDepth 20000 in
theorem b_RF_delete_96 {l : Launch} {V : xV} {Q : Int32 → xIt → xJt → xPt → Prop} {I : xIt} {J : xJt} {P : xPt} (hL : xL P) {v1 : Int32} {v2 : Int32} (h : (((I 250 27) ≤ v2 → ((¬ (I 250 37) = v1 → (((I 250 37) ≤ v1 → Q 0 (xu I 250 37 (I 250 37)) J P) ∧ (¬ (I 250 37) ≤ v1 → Q 0 (xu I 250 37 ((I 250 37) - 1)) J P))) ∧ ((I 250 37) = v1 → Q 0 (xu I 250 37 (-1)) J P))) ∧ (¬ (I 250 27) ≤ v2 → (vp_in v2 13 ∧ (((I 263 v2.toNatClampNeg) ≤ v1 → (vp_in v2 13 ∧ (vp_in v2 13 ∧ G_RF_delete l V Q 96 [(0, xq (some 250)), (1, xi v1), (2, xi (v2 + 1))] [] (xu I 263 v2.toNatClampNeg (I 263 v2.toNatClampNeg)) J P))) ∧ (¬ (I 263 v2.toNatClampNeg) ≤ v1 → (vp_in v2 13 ∧ (vp_in v2 13 ∧ G_RF_delete l V Q 96 [(0, xq (some 250)), (1, xi v1), (2, xi (v2 + 1))] [] (xu I 263 v2.toNatClampNeg ((I 263 v2.toNatClampNeg) - 1)) J P)))))))) : G_RF_delete l V Q 96 [(0, xq (some 250)), (1, xi v1), (2, xi v2)] [] I J P := by
  refine xG_iload_n d_RF_delete_96 rfl rfl ?_
  refine xG_aload_n d_RF_delete_97 rfl rfl rfl ?_
  refine xG_geti d_RF_delete_98 xf_RF_211 rfl s0_250 ?_
  refine xG_icmp_ge (tgt := 143) d_RF_delete_101 (by decide) (fun c => ?_) (fun c => ?_)
  · have h := h.1 c
    refine xG_aload_n d_RF_delete_143 rfl rfl rfl ?_
    refine xG_aload_n d_RF_delete_144 rfl rfl rfl ?_
    refine xG_geti d_RF_delete_145 xf_RF_58 rfl s0_250 ?_
    refine xG_iload_n d_RF_delete_148 rfl rfl ?_
    refine xG_icmp_ne (tgt := 156) d_RF_delete_149 (by decide) (fun c => ?_) (fun c => ?_)
    · have h := h.1 c
      refine xG_aload_n d_RF_delete_156 rfl rfl rfl ?_
      refine xG_geti d_RF_delete_157 xf_RF_58 rfl s0_250 ?_
      refine xG_iload_n d_RF_delete_160 rfl rfl ?_
      refine xG_icmp_le (tgt := 173) d_RF_delete_161 (by decide) (fun c => ?_) (fun c => ?_)
      · have h := h.1 c
        refine xG_aload_n d_RF_delete_173 rfl rfl rfl ?_
        refine xG_geti d_RF_delete_174 xf_RF_58 rfl s0_250 ?_
        refine xG_puti d_RF_delete_177 xf_RF_58 (Or.inl rfl) rfl s0_250 rfl rfl ?_
        refine xG_iconst (v := 0) d_RF_delete_180 rfl ?_
        exact xG_ireturn d_RF_delete_181 rfl rfl ⟨rfl, hL, _, rfl, h⟩
      · have h := h.2 c
        refine xG_aload_n d_RF_delete_164 rfl rfl rfl ?_
        refine xG_geti d_RF_delete_165 xf_RF_58 rfl s0_250 ?_
        refine xG_iconst (v := 1) d_RF_delete_168 rfl ?_
        refine xG_isub d_RF_delete_169 ?_
        refine xG_goto (tgt := 177) d_RF_delete_170 (by decide) ?_
        refine xG_puti d_RF_delete_177 xf_RF_58 (Or.inl rfl) rfl s0_250 rfl rfl ?_
        refine xG_iconst (v := 0) d_RF_delete_180 rfl ?_
        exact xG_ireturn d_RF_delete_181 rfl rfl ⟨rfl, hL, _, rfl, h⟩
    · have h := h.2 c
      refine xG_iconst (v := (-1)) d_RF_delete_152 rfl ?_
      refine xG_goto (tgt := 177) d_RF_delete_153 (by decide) ?_
      refine xG_puti d_RF_delete_177 xf_RF_58 (Or.inl rfl) rfl s0_250 rfl rfl ?_
      refine xG_iconst (v := 0) d_RF_delete_180 rfl ?_
      exact xG_ireturn d_RF_delete_181 rfl rfl ⟨rfl, hL, _, rfl, h⟩
  · have h := h.2 c
    refine xG_aload_n d_RF_delete_104 rfl rfl rfl ?_
    refine xG_getq d_RF_delete_105 xf_RF_46 rfl s0_250 ?_
    refine xG_iload_n d_RF_delete_108 rfl rfl ?_
    refine xG_aload_n d_RF_delete_109 rfl rfl rfl ?_
    refine xG_getq d_RF_delete_110 xf_RF_46 rfl s0_250 ?_
    refine xG_iload_n d_RF_delete_113 rfl rfl ?_
    refine xG_iald d_RF_delete_114 (lp_250_33 hL) s0_263 h.1 ?_
    have h := h.2
    refine xG_iload_n d_RF_delete_115 rfl rfl ?_
    refine xG_icmp_le (tgt := 130) d_RF_delete_116 (by decide) (fun c => ?_) (fun c => ?_)
    · have h := h.1 c
      refine xG_aload_n d_RF_delete_130 rfl rfl rfl ?_
      refine xG_getq d_RF_delete_131 xf_RF_46 rfl s0_250 ?_
      refine xG_iload_n d_RF_delete_134 rfl rfl ?_
      refine xG_iald d_RF_delete_135 (lp_250_33 hL) s0_263 h.1 ?_
      have h := h.2
      refine xG_iast d_RF_delete_136 (lp_250_33 hL) s0_263 h.1 ?_
      have h := h.2
      refine xG_iinc (v := v2 + 1) (lv' := [(2, xi (v2 + 1)), (0, xq (some 250)), (1, xi v1)]) d_RF_delete_137 rfl rfl (Nat.le_of_ble_eq_true rfl) rfl ?_
      refine xG_goto (tgt := 96) d_RF_delete_140 (by decide) ?_
      refine xG_pick [1, 2, 0] rfl ?_
      exact h
    · have h := h.2 c
      refine xG_aload_n d_RF_delete_119 rfl rfl rfl ?_
      refine xG_getq d_RF_delete_120 xf_RF_46 rfl s0_250 ?_
      refine xG_iload_n d_RF_delete_123 rfl rfl ?_
      refine xG_iald d_RF_delete_124 (lp_250_33 hL) s0_263 h.1 ?_
      have h := h.2
      refine xG_iconst (v := 1) d_RF_delete_125 rfl ?_
      refine xG_isub d_RF_delete_126 ?_
      refine xG_goto (tgt := 136) d_RF_delete_127 (by decide) ?_
      refine xG_iast d_RF_delete_136 (lp_250_33 hL) s0_263 h.1 ?_
      have h := h.2
      refine xG_iinc (v := v2 + 1) (lv' := [(2, xi (v2 + 1)), (0, xq (some 250)), (1, xi v1)]) d_RF_delete_137 rfl rfl (Nat.le_of_ble_eq_true rfl) rfl ?_
      refine xG_goto (tgt := 96) d_RF_delete_140 (by decide) ?_
      refine xG_pick [1, 2, 0] rfl ?_
      exact h
theorem e_RF_delete {l : Launch} {V : xV} {Q : Int32 → xIt → xJt → xPt → Prop} {I : xIt} {J : xJt} {P : xPt}  (h : G_RF_delete l V Q 0 [(0, xq (some 250))] [] I J P) : xMet l V y_RF_delete 5 0 0 [xq (some 250)] xS0 I J P (xPi Q) := xMet_of (by decide) (Nat.le_of_ble_eq_true rfl) h

abbrev G_RF_change (l : Launch) (V : xV) (Q : Int32 → xIt → xJt → xPt → Prop) (pc : Nat) (lv : List (Nat × xX)) (st : List xX) (I : xIt) (J : xJt) (P : xPt) : Prop := xG l V y_RF_change (xR 5 0 0) (xFn V y_RF_change (xR 5 0 0) (xPi Q)) pc lv st xS0 I J P (0, 0)
set_option maxRecDepth 20000 in
theorem b_RF_change_0 {l : Launch} {V : xV} {Q : Int32 → xIt → xJt → xPt → Prop} {I : xIt} {J : xJt} {P : xPt} (hL : xL P) {v1 : Int32} (h : (∃ Q1 : Int32 → xIt → xJt → xPt → Prop, xMet l V y_RF_listValues 3 0 0 [xq (some 250), xi (I 250 16), xi (I 250 17)] xS0 I J P (xPi Q1) ∧ ∀ (z1 : Int32) (I1 : xIt) (J1 : xJt) (P1 : xPt), Q1 z1 I1 J1 P1 → ((¬ z1 = 0 → (vp_in (60 + v1) 65 ∧ ((¬ (I1 250 11) = 0 → ((¬ (I1 250 11) = 1 → G_RF_change l V Q 61 [(0, xq (some 250)), (1, xi v1), (2, xi z1), (3, xi (I1 258 ((60 + v1).toNatClampNeg)))] [] I1 J1 P1) ∧ ((I1 250 11) = 1 → ((¬ (I1 258 ((60 + v1).toNatClampNeg)) = 0 → G_RF_change l V Q 61 [(0, xq (some 250)), (1, xi v1), (2, xi z1), (3, xi (I1 258 ((60 + v1).toNatClampNeg)))] [] I1 J1 P1) ∧ ((I1 258 ((60 + v1).toNatClampNeg)) = 0 → Q 16 I1 J1 P1))))) ∧ ((I1 250 11) = 0 → ((¬ (I1 250 18) = 0 → ((¬ (I1 250 11) = 1 → G_RF_change l V Q 61 [(0, xq (some 250)), (1, xi v1), (2, xi z1), (3, xi (I1 258 ((60 + v1).toNatClampNeg)))] [] I1 J1 P1) ∧ ((I1 250 11) = 1 → ((¬ (I1 258 ((60 + v1).toNatClampNeg)) = 0 → G_RF_change l V Q 61 [(0, xq (some 250)), (1, xi v1), (2, xi z1), (3, xi (I1 258 ((60 + v1).toNatClampNeg)))] [] I1 J1 P1) ∧ ((I1 258 ((60 + v1).toNatClampNeg)) = 0 → Q 16 I1 J1 P1))))) ∧ ((I1 250 18) = 0 → Q 2 I1 J1 P1)))))) ∧ (z1 = 0 → Q 21 I1 J1 P1)))) : G_RF_change l V Q 0 [(0, xq (some 250)), (1, xi v1)] [] I J P := by
  refine xG_aload_n d_RF_change_0 rfl rfl rfl ?_
  refine xG_aload_n d_RF_change_1 rfl rfl rfl ?_
  refine xG_geti d_RF_change_2 xf_RF_118 rfl s0_250 ?_
  refine xG_aload_n d_RF_change_5 rfl rfl rfl ?_
  refine xG_geti d_RF_change_6 xf_RF_121 rfl s0_250 ?_
  obtain ⟨Q1, hM, h⟩ := h
  refine xG_callv (as := [xi (I 250 16), xi (I 250 17)]) (rest := []) d_RF_change_9 yv_RF_listValues w4_223 rfl rfl rfl s0_250 (by decide) rfl hM ⟨by decide, by decide⟩ (Nat.le_of_ble_eq_true rfl) ⟨Nat.zero_le _, Nat.zero_le _⟩ (fun r S1 I1 J1 P1 hp => ?_)
  obtain ⟨rfl, hL1, z1, rfl, hq⟩ := hp
  have h := h z1 I1 J1 P1 hq
  refine xG_istore_n (lv' := [(2, xi z1), (0, xq (some 250)), (1, xi v1)]) d_RF_change_12 rfl (Nat.le_of_ble_eq_true rfl) rfl ?_
  refine xG_iload_n d_RF_change_13 rfl rfl ?_
  refine xG_if_ne (tgt := 20) d_RF_change_14 (by decide) (fun c => ?_) (fun c => ?_)
  · have h := h.1 c
    refine xG_aload_n d_RF_change_20 rfl rfl rfl ?_
    refine xG_getq d_RF_change_21 xf_RF_31 rfl s0_250 ?_
    refine xG_bipush (v := 60) d_RF_change_24 rfl ?_
    refine xG_iload_n d_RF_change_26 rfl rfl ?_
    refine xG_iadd d_RF_change_27 ?_
    refine xG_iald d_RF_change_28 (lp_250_28 hL1) s0_258 h.1 ?_
    have h := h.2
    refine xG_topi (x' := I1 258 ((60 + v1).toNatClampNeg)) (by first | rfl | exact xu_at | simp [xu]) ?_
    refine xG_istore_n (lv' := [(3, xi (I1 258 ((60 + v1).toNatClampNeg))), (2, xi z1), (0, xq (some 250)), (1, xi v1)]) d_RF_change_29 rfl (Nat.le_of_ble_eq_true rfl) rfl ?_
    refine xG_aload_n d_RF_change_30 rfl rfl rfl ?_
    refine xG_geti d_RF_change_31 xf_RF_174 rfl s0_250 ?_
    refine xG_if_ne (tgt := 46) d_RF_change_34 (by decide) (fun c => ?_) (fun c => ?_)
    · have h := h.1 c
      refine xG_aload_n d_RF_change_46 rfl rfl rfl ?_
      refine xG_geti d_RF_change_47 xf_RF_174 rfl s0_250 ?_
      refine xG_iconst (v := 1) d_RF_change_50 rfl ?_
      refine xG_icmp_ne (tgt := 61) d_RF_change_51 (by decide) (fun c => ?_) (fun c => ?_)
      · have h := h.1 c
        refine xG_pick [2, 3, 1, 0] rfl ?_
        exact h
      · have h := h.2 c
        refine xG_iload_n d_RF_change_54 rfl rfl ?_
        refine xG_if_ne (tgt := 61) d_RF_change_55 (by decide) (fun c => ?_) (fun c => ?_)
        · have h := h.1 c
          refine xG_pick [2, 3, 1, 0] rfl ?_
          exact h
        · have h := h.2 c
          refine xG_bipush (v := 16) d_RF_change_58 rfl ?_
          exact xG_ireturn d_RF_change_60 rfl rfl ⟨rfl, hL1, _, rfl, h⟩
    · have h := h.2 c
      refine xG_aload_n d_RF_change_37 rfl rfl rfl ?_
      refine xG_geti d_RF_change_38 xf_RF_124 rfl s0_250 ?_
      refine xG_if_ne (tgt := 46) d_RF_change_41 (by decide) (fun c => ?_) (fun c => ?_)
      · have h := h.1 c
        refine xG_aload_n d_RF_change_46 rfl rfl rfl ?_
        refine xG_geti d_RF_change_47 xf_RF_174 rfl s0_250 ?_
        refine xG_iconst (v := 1) d_RF_change_50 rfl ?_
        refine xG_icmp_ne (tgt := 61) d_RF_change_51 (by decide) (fun c => ?_) (fun c => ?_)
        · have h := h.1 c
          refine xG_pick [2, 3, 1, 0] rfl ?_
          exact h
        · have h := h.2 c
          refine xG_iload_n d_RF_change_54 rfl rfl ?_
          refine xG_if_ne (tgt := 61) d_RF_change_55 (by decide) (fun c => ?_) (fun c => ?_)
          · have h := h.1 c
            refine xG_pick [2, 3, 1, 0] rfl ?_
            exact h
          · have h := h.2 c
            refine xG_bipush (v := 16) d_RF_change_58 rfl ?_
            exact xG_ireturn d_RF_change_60 rfl rfl ⟨rfl, hL1, _, rfl, h⟩
      · have h := h.2 c
        refine xG_iconst (v := 2) d_RF_change_44 rfl ?_
        exact xG_ireturn d_RF_change_45 rfl rfl ⟨rfl, hL1, _, rfl, h⟩
  · have h := h.2 c
    refine xG_bipush (v := 21) d_RF_change_17 rfl ?_
    exact xG_ireturn d_RF_change_19 rfl rfl ⟨rfl, hL1, _, rfl, h⟩
set_option maxRecDepth 20000 in
theorem b_RF_change_61 {l : Launch} {V : xV} {Q : Int32 → xIt → xJt → xPt → Prop} {I : xIt} {J : xJt} {P : xPt} (hL : xL P) {v1 : Int32} {v2 : Int32} {v3 : Int32} (h : (((I 250 11) = 2 → G_RF_change l V Q 84 [(0, xq (some 250)), (1, xi v1), (2, xi v2), (3, xi v3)] [] I J P) ∧ (¬ (I 250 11) = 2 → ((¬ (I 250 11) = 1 → G_RF_change l V Q 120 [(0, xq (some 250)), (1, xi v1), (2, xi v2), (3, xi v3), (4, xi 0)] [] I J P) ∧ ((I 250 11) = 1 → ((¬ (I 250 18) = 0 → G_RF_change l V Q 120 [(0, xq (some 250)), (1, xi v1), (2, xi v2), (3, xi v3), (4, xi 0)] [] I J P) ∧ ((I 250 18) = 0 → G_RF_change l V Q 84 [(0, xq (some 250)), (1, xi v1), (2, xi v2), (3, xi v3)] [] I J P))))))) : G_RF_change l V Q 61 [(0, xq (some 250)), (1, xi v1), (2, xi v2), (3, xi v3)] [] I J P := by
  refine xG_aload_n d_RF_change_61 rfl rfl rfl ?_
  refine xG_geti d_RF_change_62 xf_RF_174 rfl s0_250 ?_
  refine xG_iconst (v := 2) d_RF_change_65 rfl ?_
  refine xG_icmp_eq (tgt := 84) d_RF_change_66 (by decide) (fun c => ?_) (fun c => ?_)
  · have h := h.1 c
    exact h
  · have h := h.2 c
    refine xG_aload_n d_RF_change_69 rfl rfl rfl ?_
    refine xG_geti d_RF_change_70 xf_RF_174 rfl s0_250 ?_
    refine xG_iconst (v := 1) d_RF_change_73 rfl ?_
    refine xG_icmp_ne (tgt := 117) d_RF_change_74 (by decide) (fun c => ?_) (fun c => ?_)
    · have h := h.1 c
      refine xG_iconst (v := 0) d_RF_change_117 rfl ?_
      refine xG_istore (lv' := [(4, xi 0), (0, xq (some 250)), (1, xi v1), (2, xi v2), (3, xi v3)]) d_RF_change_118 (Nat.le_of_ble_eq_true rfl) rfl ?_
      refine xG_pick [1, 2, 3, 4, 0] rfl ?_
      exact h
    · have h := h.2 c
      refine xG_aload_n d_RF_change_77 rfl rfl rfl ?_
      refine xG_geti d_RF_change_78 xf_RF_124 rfl s0_250 ?_
      refine xG_if_ne (tgt := 117) d_RF_change_81 (by decide) (fun c => ?_) (fun c => ?_)
      · have h := h.1 c
        refine xG_iconst (v := 0) d_RF_change_117 rfl ?_
        refine xG_istore (lv' := [(4, xi 0), (0, xq (some 250)), (1, xi v1), (2, xi v2), (3, xi v3)]) d_RF_change_118 (Nat.le_of_ble_eq_true rfl) rfl ?_
        refine xG_pick [1, 2, 3, 4, 0] rfl ?_
        exact h
      · have h := h.2 c
        exact h
set_option maxRecDepth 20000 in
theorem b_RF_change_84 {l : Launch} {V : xV} {Q : Int32 → xIt → xJt → xPt → Prop} {I : xIt} {J : xJt} {P : xPt} (hL : xL P) {v1 : Int32} {v2 : Int32} {v3 : Int32} (h : (∃ Q1 : Int32 → xIt → xJt → xPt → Prop, xMet l V y_RF_most 1 0 0 [xi v1] xS0 I J P (xPi Q1) ∧ ∀ (z1 : Int32) (I1 : xIt) (J1 : xJt) (P1 : xPt), Q1 z1 I1 J1 P1 → (((I 250 18) ≤ z1 → (vp_in (60 + v1) 65 ∧ (∃ Q2 : xIt → xJt → xPt → Prop, xMet l V y_RF_appendValues 4 0 0 [xq (some 250), xi 12, xi v1] xS0 (xu I1 258 ((60 + v1).toNatClampNeg) 0) J1 P1 (xPv Q2) ∧ ∀ (I2 : xIt) (J2 : xJt) (P2 : xPt), Q2 I2 J2 P2 → Q 0 I2 J2 P2))) ∧ (¬ (I 250 18) ≤ z1 → Q 19 I1 J1 P1)))) : G_RF_change l V Q 84 [(0, xq (some 250)), (1, xi v1), (2, xi v2), (3, xi v3)] [] I J P := by
  refine xG_aload_n d_RF_change_84 rfl rfl rfl ?_
  refine xG_geti d_RF_change_85 xf_RF_124 rfl s0_250 ?_
  refine xG_iload_n d_RF_change_88 rfl rfl ?_
  obtain ⟨Q1, hM, h⟩ := h
  refine xG_calls (as := [xi v1]) (rest := [xi (I 250 18)]) d_RF_change_89 ys_RF_most w5_90 rfl rfl hM ⟨by decide, by decide⟩ (Nat.le_of_ble_eq_true rfl) ⟨Nat.zero_le _, Nat.zero_le _⟩ (fun r S1 I1 J1 P1 hp => ?_)
  obtain ⟨rfl, hL1, z1, rfl, hq⟩ := hp
  have h := h z1 I1 J1 P1 hq
  refine xG_icmp_le (tgt := 98) d_RF_change_92 (by decide) (fun c => ?_) (fun c => ?_)
  · have h := h.1 c
    refine xG_aload_n d_RF_change_98 rfl rfl rfl ?_
    refine xG_getq d_RF_change_99 xf_RF_31 rfl s0_250 ?_
    refine xG_bipush (v := 60) d_RF_change_102 rfl ?_
    refine xG_iload_n d_RF_change_104 rfl rfl ?_
    refine xG_iadd d_RF_change_105 ?_
    refine xG_iconst (v := 0) d_RF_change_106 rfl ?_
    refine xG_iast d_RF_change_107 (lp_250_28 hL1) s0_258 h.1 ?_
    have h := h.2
    refine xG_aload_n d_RF_change_108 rfl rfl rfl ?_
    refine xG_bipush (v := 12) d_RF_change_109 rfl ?_
    refine xG_iload_n d_RF_change_111 rfl rfl ?_
    obtain ⟨Q2, hM, h⟩ := h
    refine xG_callv (as := [xi 12, xi v1]) (rest := []) d_RF_change_112 yv_RF_appendValues w5_93 rfl rfl rfl s0_250 (by decide) rfl hM ⟨by decide, by decide⟩ (Nat.le_of_ble_eq_true rfl) ⟨Nat.zero_le _, Nat.zero_le _⟩ (fun r S2 I2 J2 P2 hp => ?_)
    obtain ⟨rfl, hL2, rfl, hq⟩ := hp
    have h := h I2 J2 P2 hq
    refine xG_iconst (v := 0) d_RF_change_115 rfl ?_
    exact xG_ireturn d_RF_change_116 rfl rfl ⟨rfl, hL2, _, rfl, h⟩
  · have h := h.2 c
    refine xG_bipush (v := 19) d_RF_change_95 rfl ?_
    exact xG_ireturn d_RF_change_97 rfl rfl ⟨rfl, hL1, _, rfl, h⟩
set_option maxRecDepth 20000 in
theorem b_RF_change_120 {l : Launch} {V : xV} {Q : Int32 → xIt → xJt → xPt → Prop} {I : xIt} {J : xJt} {P : xPt} (hL : xL P) {v1 : Int32} {v2 : Int32} {v3 : Int32} {v4 : Int32} (h : (((I 250 18) ≤ v4 → ((¬ (I 250 11) = 1 → (∃ Q1 : Int32 → xIt → xJt → xPt → Prop, xMet l V y_RF_most 1 0 0 [xi v1] xS0 I J P (xPi Q1) ∧ ∀ (z1 : Int32) (I1 : xIt) (J1 : xJt) (P1 : xPt), Q1 z1 I1 J1 P1 → (((v3 + (I 250 18)) ≤ z1 → (∃ Q2 : xIt → xJt → xPt → Prop, xMet l V y_RF_appendValues 4 0 0 [xq (some 250), xi 12, xi v1] xS0 I1 J1 P1 (xPv Q2) ∧ ∀ (I2 : xIt) (J2 : xJt) (P2 : xPt), Q2 I2 J2 P2 → Q 0 I2 J2 P2)) ∧ (¬ (v3 + (I 250 18)) ≤ z1 → Q 19 I1 J1 P1)))) ∧ ((I 250 11) = 1 → Q 0 I J P))) ∧ (¬ (I 250 18) ≤ v4 → (vp_in v4 8 ∧ (vp_in v4 8 ∧ (∃ Q3 : xIt → xJt → xPt → Prop, xMet l V y_RF_load 1 0 0 [xq (some 250), xi (I 252 v4.toNatClampNeg), xi (I 253 v4.toNatClampNeg)] xS0 I J P (xPv Q3) ∧ ∀ (I3 : xIt) (J3 : xJt) (P3 : xPt), Q3 I3 J3 P3 → (∃ Q4 : Int32 → xIt → xJt → xPt → Prop, xMet l V y_RF_formOf 3 0 0 [xq (some 250), xi v1, xi 3] xS0 I3 J3 P3 (xPi Q4) ∧ ∀ (z4 : Int32) (I4 : xIt) (J4 : xJt) (P4 : xPt), Q4 z4 I4 J4 P4 → (∃ Q5 : Int32 → xIt → xJt → xPt → Prop, xMet l V y_RF_placeOf 1 0 0 [xq (some 250), xi 12, xi v1, xi 3, xi z4] xS0 I4 J4 P4 (xPi Q5) ∧ ∀ (z5 : Int32) (I5 : xIt) (J5 : xJt) (P5 : xPt), Q5 z5 I5 J5 P5 → ((¬ (I5 250 11) = 0 → ((¬ (I5 250 11) = 1 → G_RF_change l V Q 198 [(0, xq (some 250)), (1, xi v1), (2, xi v2), (3, xi v3), (4, xi v4), (5, xi z4), (6, xi z5)] [] I5 J5 P5) ∧ ((I5 250 11) = 1 → ((0 ≤ z5 → G_RF_change l V Q 198 [(0, xq (some 250)), (1, xi v1), (2, xi v2), (3, xi v3), (4, xi v4), (5, xi z4), (6, xi z5)] [] I5 J5 P5) ∧ (¬ 0 ≤ z5 → Q 16 I5 J5 P5))))) ∧ ((I5 250 11) = 0 → ((z5 < 0 → ((¬ (I5 250 11) = 1 → G_RF_change l V Q 198 [(0, xq (some 250)), (1, xi v1), (2, xi v2), (3, xi v3), (4, xi v4), (5, xi z4), (6, xi z5)] [] I5 J5 P5) ∧ ((I5 250 11) = 1 → ((0 ≤ z5 → G_RF_change l V Q 198 [(0, xq (some 250)), (1, xi v1), (2, xi v2), (3, xi v3), (4, xi v4), (5, xi z4), (6, xi z5)] [] I5 J5 P5) ∧ (¬ 0 ≤ z5 → Q 16 I5 J5 P5))))) ∧ (¬ z5 < 0 → Q 20 I5 J5 P5)))))))))))) : G_RF_change l V Q 120 [(0, xq (some 250)), (1, xi v1), (2, xi v2), (3, xi v3), (4, xi v4)] [] I J P := by
  refine xG_iload d_RF_change_120 rfl ?_
  refine xG_aload_n d_RF_change_122 rfl rfl rfl ?_
  refine xG_geti d_RF_change_123 xf_RF_124 rfl s0_250 ?_
  refine xG_icmp_ge (tgt := 221) d_RF_change_126 (by decide) (fun c => ?_) (fun c => ?_)
  · have h := h.1 c
    refine xG_aload_n d_RF_change_221 rfl rfl rfl ?_
    refine xG_geti d_RF_change_222 xf_RF_174 rfl s0_250 ?_
    refine xG_iconst (v := 1) d_RF_change_225 rfl ?_
    refine xG_icmp_ne (tgt := 231) d_RF_change_226 (by decide) (fun c => ?_) (fun c => ?_)
    · have h := h.1 c
      refine xG_iload_n d_RF_change_231 rfl rfl ?_
      refine xG_aload_n d_RF_change_232 rfl rfl rfl ?_
      refine xG_geti d_RF_change_233 xf_RF_124 rfl s0_250 ?_
      refine xG_iadd d_RF_change_236 ?_
      refine xG_iload_n d_RF_change_237 rfl rfl ?_
      obtain ⟨Q1, hM, h⟩ := h
      refine xG_calls (as := [xi v1]) (rest := [xi (v3 + (I 250 18))]) d_RF_change_238 ys_RF_most w5_90 rfl rfl hM ⟨by decide, by decide⟩ (Nat.le_of_ble_eq_true rfl) ⟨Nat.zero_le _, Nat.zero_le _⟩ (fun r S1 I1 J1 P1 hp => ?_)
      obtain ⟨rfl, hL1, z1, rfl, hq⟩ := hp
      have h := h z1 I1 J1 P1 hq
      refine xG_icmp_le (tgt := 247) d_RF_change_241 (by decide) (fun c => ?_) (fun c => ?_)
      · have h := h.1 c
        refine xG_aload_n d_RF_change_247 rfl rfl rfl ?_
        refine xG_bipush (v := 12) d_RF_change_248 rfl ?_
        refine xG_iload_n d_RF_change_250 rfl rfl ?_
        obtain ⟨Q2, hM, h⟩ := h
        refine xG_callv (as := [xi 12, xi v1]) (rest := []) d_RF_change_251 yv_RF_appendValues w5_93 rfl rfl rfl s0_250 (by decide) rfl hM ⟨by decide, by decide⟩ (Nat.le_of_ble_eq_true rfl) ⟨Nat.zero_le _, Nat.zero_le _⟩ (fun r S2 I2 J2 P2 hp => ?_)
        obtain ⟨rfl, hL2, rfl, hq⟩ := hp
        have h := h I2 J2 P2 hq
        refine xG_iconst (v := 0) d_RF_change_254 rfl ?_
        exact xG_ireturn d_RF_change_255 rfl rfl ⟨rfl, hL2, _, rfl, h⟩
      · have h := h.2 c
        refine xG_bipush (v := 19) d_RF_change_244 rfl ?_
        exact xG_ireturn d_RF_change_246 rfl rfl ⟨rfl, hL1, _, rfl, h⟩
    · have h := h.2 c
      refine xG_iconst (v := 0) d_RF_change_229 rfl ?_
      exact xG_ireturn d_RF_change_230 rfl rfl ⟨rfl, hL, _, rfl, h⟩
  · have h := h.2 c
    refine xG_aload_n d_RF_change_129 rfl rfl rfl ?_
    refine xG_aload_n d_RF_change_130 rfl rfl rfl ?_
    refine xG_getq d_RF_change_131 xf_RF_13 rfl s0_250 ?_
    refine xG_iload d_RF_change_134 rfl ?_
    refine xG_iald d_RF_change_136 (lp_250_19 hL) s0_252 h.1 ?_
    have h := h.2
    refine xG_aload_n d_RF_change_137 rfl rfl rfl ?_
    refine xG_getq d_RF_change_138 xf_RF_16 rfl s0_250 ?_
    refine xG_iload d_RF_change_141 rfl ?_
    refine xG_iald d_RF_change_143 (lp_250_20 hL) s0_253 h.1 ?_
    have h := h.2
    obtain ⟨Q3, hM, h⟩ := h
    refine xG_callv (as := [xi (I 252 v4.toNatClampNeg), xi (I 253 v4.toNatClampNeg)]) (rest := []) d_RF_change_144 yv_RF_load w5_50 rfl rfl rfl s0_250 (by decide) rfl hM ⟨by decide, by decide⟩ (Nat.le_of_ble_eq_true rfl) ⟨Nat.zero_le _, Nat.zero_le _⟩ (fun r S3 I3 J3 P3 hp => ?_)
    obtain ⟨rfl, hL3, rfl, hq⟩ := hp
    have h := h I3 J3 P3 hq
    refine xG_aload_n d_RF_change_147 rfl rfl rfl ?_
    refine xG_iload_n d_RF_change_148 rfl rfl ?_
    refine xG_iconst (v := 3) d_RF_change_149 rfl ?_
    obtain ⟨Q4, hM, h⟩ := h
    refine xG_callv (as := [xi v1, xi 3]) (rest := []) d_RF_change_150 yv_RF_formOf w5_30 rfl rfl rfl s0_250 (by decide) rfl hM ⟨by decide, by decide⟩ (Nat.le_of_ble_eq_true rfl) ⟨Nat.zero_le _, Nat.zero_le _⟩ (fun r S4 I4 J4 P4 hp => ?_)
    obtain ⟨rfl, hL4, z4, rfl, hq⟩ := hp
    have h := h z4 I4 J4 P4 hq
    refine xG_istore (lv' := [(5, xi z4), (0, xq (some 250)), (1, xi v1), (2, xi v2), (3, xi v3), (4, xi v4)]) d_RF_change_153 (Nat.le_of_ble_eq_true rfl) rfl ?_
    refine xG_aload_n d_RF_change_155 rfl rfl rfl ?_
    refine xG_bipush (v := 12) d_RF_change_156 rfl ?_
    refine xG_iload_n d_RF_change_158 rfl rfl ?_
    refine xG_iconst (v := 3) d_RF_change_159 rfl ?_
    refine xG_iload d_RF_change_160 rfl ?_
    obtain ⟨Q5, hM, h⟩ := h
    refine xG_callv (as := [xi 12, xi v1, xi 3, xi z4]) (rest := []) d_RF_change_162 yv_RF_placeOf w5_54 rfl rfl rfl s0_250 (by decide) rfl hM ⟨by decide, by decide⟩ (Nat.le_of_ble_eq_true rfl) ⟨Nat.zero_le _, Nat.zero_le _⟩ (fun r S5 I5 J5 P5 hp => ?_)
    obtain ⟨rfl, hL5, z5, rfl, hq⟩ := hp
    have h := h z5 I5 J5 P5 hq
    refine xG_istore (lv' := [(6, xi z5), (5, xi z4), (0, xq (some 250)), (1, xi v1), (2, xi v2), (3, xi v3), (4, xi v4)]) d_RF_change_165 (Nat.le_of_ble_eq_true rfl) rfl ?_
    refine xG_aload_n d_RF_change_167 rfl rfl rfl ?_
    refine xG_geti d_RF_change_168 xf_RF_174 rfl s0_250 ?_
    refine xG_if_ne (tgt := 182) d_RF_change_171 (by decide) (fun c => ?_) (fun c => ?_)
    · have h := h.1 c
      refine xG_aload_n d_RF_change_182 rfl rfl rfl ?_
      refine xG_geti d_RF_change_183 xf_RF_174 rfl s0_250 ?_
      refine xG_iconst (v := 1) d_RF_change_186 rfl ?_
      refine xG_icmp_ne (tgt := 198) d_RF_change_187 (by decide) (fun c => ?_) (fun c => ?_)
      · have h := h.1 c
        refine xG_pick [2, 3, 4, 5, 6, 1, 0] rfl ?_
        exact h
      · have h := h.2 c
        refine xG_iload d_RF_change_190 rfl ?_
        refine xG_if_ge (tgt := 198) d_RF_change_192 (by decide) (fun c => ?_) (fun c => ?_)
        · have h := h.1 c
          refine xG_pick [2, 3, 4, 5, 6, 1, 0] rfl ?_
          exact h
        · have h := h.2 c
          refine xG_bipush (v := 16) d_RF_change_195 rfl ?_
          exact xG_ireturn d_RF_change_197 rfl rfl ⟨rfl, hL5, _, rfl, h⟩
    · have h := h.2 c
      refine xG_iload d_RF_change_174 rfl ?_
      refine xG_if_lt (tgt := 182) d_RF_change_176 (by decide) (fun c => ?_) (fun c => ?_)
      · have h := h.1 c
        refine xG_aload_n d_RF_change_182 rfl rfl rfl ?_
        refine xG_geti d_RF_change_183 xf_RF_174 rfl s0_250 ?_
        refine xG_iconst (v := 1) d_RF_change_186 rfl ?_
        refine xG_icmp_ne (tgt := 198) d_RF_change_187 (by decide) (fun c => ?_) (fun c => ?_)
        · have h := h.1 c
          refine xG_pick [2, 3, 4, 5, 6, 1, 0] rfl ?_
          exact h
        · have h := h.2 c
          refine xG_iload d_RF_change_190 rfl ?_
          refine xG_if_ge (tgt := 198) d_RF_change_192 (by decide) (fun c => ?_) (fun c => ?_)
          · have h := h.1 c
            refine xG_pick [2, 3, 4, 5, 6, 1, 0] rfl ?_
            exact h
          · have h := h.2 c
            refine xG_bipush (v := 16) d_RF_change_195 rfl ?_
            exact xG_ireturn d_RF_change_197 rfl rfl ⟨rfl, hL5, _, rfl, h⟩
      · have h := h.2 c
        refine xG_bipush (v := 20) d_RF_change_179 rfl ?_
        exact xG_ireturn d_RF_change_181 rfl rfl ⟨rfl, hL5, _, rfl, h⟩
set_option maxRecDepth 20000 in
theorem b_RF_change_198 {l : Launch} {V : xV} {Q : Int32 → xIt → xJt → xPt → Prop} {I : xIt} {J : xJt} {P : xPt} (hL : xL P) {v1 : Int32} {v2 : Int32} {v3 : Int32} {v4 : Int32} {v5 : Int32} {v6 : Int32} (h : ((¬ (I 250 11) = 1 → G_RF_change l V Q 120 [(0, xq (some 250)), (1, xi v1), (2, xi v2), (3, xi v3), (4, xi (v4 + 1))] [] I J P) ∧ ((I 250 11) = 1 → (∃ Q1 : xIt → xJt → xPt → Prop, xMet l V y_RF_takeAway 2 0 0 [xq (some 250), xi 12, xi v1, xi v6] xS0 I J P (xPv Q1) ∧ ∀ (I1 : xIt) (J1 : xJt) (P1 : xPt), Q1 I1 J1 P1 → G_RF_change l V Q 120 [(0, xq (some 250)), (1, xi v1), (2, xi v2), (3, xi v3), (4, xi (v4 + 1))] [] I1 J1 P1)))) : G_RF_change l V Q 198 [(0, xq (some 250)), (1, xi v1), (2, xi v2), (3, xi v3), (4, xi v4), (5, xi v5), (6, xi v6)] [] I J P := by
  refine xG_aload_n d_RF_change_198 rfl rfl rfl ?_
  refine xG_geti d_RF_change_199 xf_RF_174 rfl s0_250 ?_
  refine xG_iconst (v := 1) d_RF_change_202 rfl ?_
  refine xG_icmp_ne (tgt := 215) d_RF_change_203 (by decide) (fun c => ?_) (fun c => ?_)
  · have h := h.1 c
    refine xG_iinc (v := v4 + 1) (lv' := [(4, xi (v4 + 1)), (0, xq (some 250)), (1, xi v1), (2, xi v2), (3, xi v3), (5, xi v5), (6, xi v6)]) d_RF_change_215 rfl rfl (Nat.le_of_ble_eq_true rfl) rfl ?_
    refine xG_goto (tgt := 120) d_RF_change_218 (by decide) ?_
    refine xG_pick [1, 2, 3, 4, 0] rfl ?_
    exact h
  · have h := h.2 c
    refine xG_aload_n d_RF_change_206 rfl rfl rfl ?_
    refine xG_bipush (v := 12) d_RF_change_207 rfl ?_
    refine xG_iload_n d_RF_change_209 rfl rfl ?_
    refine xG_iload d_RF_change_210 rfl ?_
    obtain ⟨Q1, hM, h⟩ := h
    refine xG_callv (as := [xi 12, xi v1, xi v6]) (rest := []) d_RF_change_212 yv_RF_takeAway w5_141 rfl rfl rfl s0_250 (by decide) rfl hM ⟨by decide, by decide⟩ (Nat.le_of_ble_eq_true rfl) ⟨Nat.zero_le _, Nat.zero_le _⟩ (fun r S1 I1 J1 P1 hp => ?_)
    obtain ⟨rfl, hL1, rfl, hq⟩ := hp
    have h := h I1 J1 P1 hq
    refine xG_iinc (v := v4 + 1) (lv' := [(4, xi (v4 + 1)), (0, xq (some 250)), (1, xi v1), (2, xi v2), (3, xi v3), (5, xi v5), (6, xi v6)]) d_RF_change_215 rfl rfl (Nat.le_of_ble_eq_true rfl) rfl ?_
    refine xG_goto (tgt := 120) d_RF_change_218 (by decide) ?_
    refine xG_pick [1, 2, 3, 4, 0] rfl ?_
    exact h
theorem e_RF_change {l : Launch} {V : xV} {Q : Int32 → xIt → xJt → xPt → Prop} {I : xIt} {J : xJt} {P : xPt} {v1 : Int32} (h : G_RF_change l V Q 0 [(0, xq (some 250)), (1, xi v1)] [] I J P) : xMet l V y_RF_change 5 0 0 [xq (some 250), xi v1] xS0 I J P (xPi Q) := xMet_of (by decide) (Nat.le_of_ble_eq_true rfl) h

abbrev G_RF_modify (l : Launch) (V : xV) (Q : Int32 → xIt → xJt → xPt → Prop) (pc : Nat) (lv : List (Nat × xX)) (st : List xX) (I : xIt) (J : xJt) (P : xPt) : Prop := xG l V y_RF_modify (xR 6 0 0) (xFn V y_RF_modify (xR 6 0 0) (xPi Q)) pc lv st xS0 I J P (0, 0)
set_option maxRecDepth 20000 in
theorem b_RF_modify_0 {l : Launch} {V : xV} {Q : Int32 → xIt → xJt → xPt → Prop} {I : xIt} {J : xJt} {P : xPt} (hL : xL P)  (h : (∃ Q1 : Int32 → xIt → xJt → xPt → Prop, xMet l V y_RF_readName 4 0 0 [xq (some 250), xi (I 250 12), xi (I 250 13)] xS0 I J P (xPi Q1) ∧ ∀ (z1 : Int32) (I1 : xIt) (J1 : xJt) (P1 : xPt), Q1 z1 I1 J1 P1 → ((0 ≤ z1 → (∃ Q2 : Int32 → xIt → xJt → xPt → Prop, xMet l V y_RF_entryNamed 2 0 0 [xq (some 250), xi 0] xS0 I1 J1 P1 (xPi Q2) ∧ ∀ (z2 : Int32) (I2 : xIt) (J2 : xJt) (P2 : xPt), Q2 z2 I2 J2 P2 → ((0 ≤ z2 → (∃ Q3 : Int32 → xIt → xJt → xPt → Prop, xMet l V y_RF_typeAt 2 0 0 [xq (some 250), xi (I2 250 14), xi (I2 250 15)] xS0 I2 J2 P2 (xPi Q3) ∧ ∀ (z3 : Int32) (I3 : xIt) (J3 : xJt) (P3 : xPt), Q3 z3 I3 J3 P3 → ((0 ≤ z3 → (∃ Q4 : Int32 → xIt → xJt → xPt → Prop, xMet l V y_RF_listValues 3 0 0 [xq (some 250), xi (I3 250 16), xi (I3 250 17)] xS0 I3 J3 P3 (xPi Q4) ∧ ∀ (z4 : Int32) (I4 : xIt) (J4 : xJt) (P4 : xPt), Q4 z4 I4 J4 P4 → ((z4 = 0 → G_RF_modify l V Q 76 [(0, xq (some 250)), (1, xi z2), (2, xi z3)] [xi 21] I4 J4 P4) ∧ (¬ z4 = 0 → (∃ Q5 : Int32 → xIt → xJt → xPt → Prop, xMet l V y_RF_judgeValues 4 0 0 [xq (some 250), xi z3] xS0 I4 J4 P4 (xPi Q5) ∧ ∀ (z5 : Int32) (I5 : xIt) (J5 : xJt) (P5 : xPt), Q5 z5 I5 J5 P5 → G_RF_modify l V Q 76 [(0, xq (some 250)), (1, xi z2), (2, xi z3)] [xi z5] I5 J5 P5))))) ∧ (¬ 0 ≤ z3 → Q 17 I3 J3 P3)))) ∧ (¬ 0 ≤ z2 → Q 32 I2 J2 P2)))) ∧ (¬ 0 ≤ z1 → Q 34 I1 J1 P1)))) : G_RF_modify l V Q 0 [(0, xq (some 250))] [] I J P := by
  refine xG_aload_n d_RF_modify_0 rfl rfl rfl ?_
  refine xG_aload_n d_RF_modify_1 rfl rfl rfl ?_
  refine xG_geti d_RF_modify_2 xf_RF_106 rfl s0_250 ?_
  refine xG_aload_n d_RF_modify_5 rfl rfl rfl ?_
  refine xG_geti d_RF_modify_6 xf_RF_109 rfl s0_250 ?_
  obtain ⟨Q1, hM, h⟩ := h
  refine xG_callv (as := [xi (I 250 12), xi (I 250 13)]) (rest := []) d_RF_modify_9 yv_RF_readName w5_15 rfl rfl rfl s0_250 (by decide) rfl hM ⟨by decide, by decide⟩ (Nat.le_of_ble_eq_true rfl) ⟨Nat.zero_le _, Nat.zero_le _⟩ (fun r S1 I1 J1 P1 hp => ?_)
  obtain ⟨rfl, hL1, z1, rfl, hq⟩ := hp
  have h := h z1 I1 J1 P1 hq
  refine xG_if_ge (tgt := 18) d_RF_modify_12 (by decide) (fun c => ?_) (fun c => ?_)
  · have h := h.1 c
    refine xG_aload_n d_RF_modify_18 rfl rfl rfl ?_
    refine xG_iconst (v := 0) d_RF_modify_19 rfl ?_
    obtain ⟨Q2, hM, h⟩ := h
    refine xG_callv (as := [xi 0]) (rest := []) d_RF_modify_20 yv_RF_entryNamed w5_42 rfl rfl rfl s0_250 (by decide) rfl hM ⟨by decide, by decide⟩ (Nat.le_of_ble_eq_true rfl) ⟨Nat.zero_le _, Nat.zero_le _⟩ (fun r S2 I2 J2 P2 hp => ?_)
    obtain ⟨rfl, hL2, z2, rfl, hq⟩ := hp
    have h := h z2 I2 J2 P2 hq
    refine xG_istore_n (lv' := [(1, xi z2), (0, xq (some 250))]) d_RF_modify_23 rfl (Nat.le_of_ble_eq_true rfl) rfl ?_
    refine xG_iload_n d_RF_modify_24 rfl rfl ?_
    refine xG_if_ge (tgt := 31) d_RF_modify_25 (by decide) (fun c => ?_) (fun c => ?_)
    · have h := h.1 c
      refine xG_aload_n d_RF_modify_31 rfl rfl rfl ?_
      refine xG_aload_n d_RF_modify_32 rfl rfl rfl ?_
      refine xG_geti d_RF_modify_33 xf_RF_112 rfl s0_250 ?_
      refine xG_aload_n d_RF_modify_36 rfl rfl rfl ?_
      refine xG_geti d_RF_modify_37 xf_RF_115 rfl s0_250 ?_
      obtain ⟨Q3, hM, h⟩ := h
      refine xG_callv (as := [xi (I2 250 14), xi (I2 250 15)]) (rest := []) d_RF_modify_40 yv_RF_typeAt w5_19 rfl rfl rfl s0_250 (by decide) rfl hM ⟨by decide, by decide⟩ (Nat.le_of_ble_eq_true rfl) ⟨Nat.zero_le _, Nat.zero_le _⟩ (fun r S3 I3 J3 P3 hp => ?_)
      obtain ⟨rfl, hL3, z3, rfl, hq⟩ := hp
      have h := h z3 I3 J3 P3 hq
      refine xG_istore_n (lv' := [(2, xi z3), (1, xi z2), (0, xq (some 250))]) d_RF_modify_43 rfl (Nat.le_of_ble_eq_true rfl) rfl ?_
      refine xG_iload_n d_RF_modify_44 rfl rfl ?_
      refine xG_if_ge (tgt := 51) d_RF_modify_45 (by decide) (fun c => ?_) (fun c => ?_)
      · have h := h.1 c
        refine xG_aload_n d_RF_modify_51 rfl rfl rfl ?_
        refine xG_aload_n d_RF_modify_52 rfl rfl rfl ?_
        refine xG_geti d_RF_modify_53 xf_RF_118 rfl s0_250 ?_
        refine xG_aload_n d_RF_modify_56 rfl rfl rfl ?_
        refine xG_geti d_RF_modify_57 xf_RF_121 rfl s0_250 ?_
        obtain ⟨Q4, hM, h⟩ := h
        refine xG_callv (as := [xi (I3 250 16), xi (I3 250 17)]) (rest := []) d_RF_modify_60 yv_RF_listValues w4_223 rfl rfl rfl s0_250 (by decide) rfl hM ⟨by decide, by decide⟩ (Nat.le_of_ble_eq_true rfl) ⟨Nat.zero_le _, Nat.zero_le _⟩ (fun r S4 I4 J4 P4 hp => ?_)
        obtain ⟨rfl, hL4, z4, rfl, hq⟩ := hp
        have h := h z4 I4 J4 P4 hq
        refine xG_if_eq (tgt := 74) d_RF_modify_63 (by decide) (fun c => ?_) (fun c => ?_)
        · have h := h.1 c
          refine xG_bipush (v := 21) d_RF_modify_74 rfl ?_
          refine xG_pick [2, 1, 0] rfl ?_
          exact h
        · have h := h.2 c
          refine xG_aload_n d_RF_modify_66 rfl rfl rfl ?_
          refine xG_iload_n d_RF_modify_67 rfl rfl ?_
          obtain ⟨Q5, hM, h⟩ := h
          refine xG_callv (as := [xi z3]) (rest := []) d_RF_modify_68 yv_RF_judgeValues w5_82 rfl rfl rfl s0_250 (by decide) rfl hM ⟨by decide, by decide⟩ (Nat.le_of_ble_eq_true rfl) ⟨Nat.zero_le _, Nat.zero_le _⟩ (fun r S5 I5 J5 P5 hp => ?_)
          obtain ⟨rfl, hL5, z5, rfl, hq⟩ := hp
          have h := h z5 I5 J5 P5 hq
          refine xG_goto (tgt := 76) d_RF_modify_71 (by decide) ?_
          refine xG_pick [2, 1, 0] rfl ?_
          exact h
      · have h := h.2 c
        refine xG_bipush (v := 17) d_RF_modify_48 rfl ?_
        exact xG_ireturn d_RF_modify_50 rfl rfl ⟨rfl, hL3, _, rfl, h⟩
    · have h := h.2 c
      refine xG_bipush (v := 32) d_RF_modify_28 rfl ?_
      exact xG_ireturn d_RF_modify_30 rfl rfl ⟨rfl, hL2, _, rfl, h⟩
  · have h := h.2 c
    refine xG_bipush (v := 34) d_RF_modify_15 rfl ?_
    exact xG_ireturn d_RF_modify_17 rfl rfl ⟨rfl, hL1, _, rfl, h⟩
set_option maxRecDepth 20000 in
theorem b_RF_modify_76 {l : Launch} {V : xV} {Q : Int32 → xIt → xJt → xPt → Prop} {I : xIt} {J : xJt} {P : xPt} (hL : xL P) {v1 : Int32} {v2 : Int32} {u0 : Int32} (h : ((u0 = 0 → (∃ Q1 : xIt → xJt → xPt → Prop, xMet l V y_RF_copyEntry 2 0 0 [xq (some 250), xi v1, xi 12] xS0 I J P (xPv Q1) ∧ ∀ (I1 : xIt) (J1 : xJt) (P1 : xPt), Q1 I1 J1 P1 → (∃ Q2 : Int32 → xIt → xJt → xPt → Prop, xMet l V y_RF_change 5 0 0 [xq (some 250), xi v2] xS0 I1 J1 P1 (xPi Q2) ∧ ∀ (z2 : Int32) (I2 : xIt) (J2 : xJt) (P2 : xPt), Q2 z2 I2 J2 P2 → ((z2 = 0 → (∃ Q3 : Int32 → xIt → xJt → xPt → Prop, xMet l V y_RF_hasPart 2 0 0 [xq (some 250), xi 12] xS0 I2 J2 P2 (xPi Q3) ∧ ∀ (z3 : Int32) (I3 : xIt) (J3 : xJt) (P3 : xPt), Q3 z3 I3 J3 P3 → ((¬ z3 = 0 → (∃ Q4 : Int32 → xIt → xJt → xPt → Prop, xMet l V y_RF_structural 3 0 0 [xq (some 250), xi 12] xS0 I3 J3 P3 (xPi Q4) ∧ ∀ (z4 : Int32) (I4 : xIt) (J4 : xJt) (P4 : xPt), Q4 z4 I4 J4 P4 → (∃ Q5 : Int32 → xIt → xJt → xPt → Prop, xMet l V y_RF_structural 3 0 0 [xq (some 250), xi v1] xS0 I4 J4 P4 (xPi Q5) ∧ ∀ (z5 : Int32) (I5 : xIt) (J5 : xJt) (P5 : xPt), Q5 z5 I5 J5 P5 → ((z4 = z5 → (∃ Q6 : Int32 → xIt → xJt → xPt → Prop, xMet l V y_RF_fits 4 0 0 [xq (some 250), xi 12] xS0 I5 J5 P5 (xPi Q6) ∧ ∀ (z6 : Int32) (I6 : xIt) (J6 : xJt) (P6 : xPt), Q6 z6 I6 J6 P6 → ((¬ z6 = 0 → (∃ Q7 : xIt → xJt → xPt → Prop, xMet l V y_RF_copyEntry 2 0 0 [xq (some 250), xi 12, xi v1] xS0 I6 J6 P6 (xPv Q7) ∧ ∀ (I7 : xIt) (J7 : xJt) (P7 : xPt), Q7 I7 J7 P7 → Q 0 I7 J7 P7)) ∧ (z6 = 0 → Q 65 I6 J6 P6)))) ∧ (¬ z4 = z5 → Q 69 I5 J5 P5))))) ∧ (z3 = 0 → Q 67 I3 J3 P3)))) ∧ (¬ z2 = 0 → Q z2 I2 J2 P2))))) ∧ (¬ u0 = 0 → Q u0 I J P))) : G_RF_modify l V Q 76 [(0, xq (some 250)), (1, xi v1), (2, xi v2)] [xi u0] I J P := by
  refine xG_istore_n (lv' := [(3, xi u0), (0, xq (some 250)), (1, xi v1), (2, xi v2)]) d_RF_modify_76 rfl (Nat.le_of_ble_eq_true rfl) rfl ?_
  refine xG_iload_n d_RF_modify_77 rfl rfl ?_
  refine xG_if_eq (tgt := 83) d_RF_modify_78 (by decide) (fun c => ?_) (fun c => ?_)
  · have h := h.1 c
    refine xG_aload_n d_RF_modify_83 rfl rfl rfl ?_
    refine xG_iload_n d_RF_modify_84 rfl rfl ?_
    refine xG_bipush (v := 12) d_RF_modify_85 rfl ?_
    obtain ⟨Q1, hM, h⟩ := h
    refine xG_callv (as := [xi v1, xi 12]) (rest := []) d_RF_modify_87 yv_RF_copyEntry w5_121 rfl rfl rfl s0_250 (by decide) rfl hM ⟨by decide, by decide⟩ (Nat.le_of_ble_eq_true rfl) ⟨Nat.zero_le _, Nat.zero_le _⟩ (fun r S1 I1 J1 P1 hp => ?_)
    obtain ⟨rfl, hL1, rfl, hq⟩ := hp
    have h := h I1 J1 P1 hq
    refine xG_aload_n d_RF_modify_90 rfl rfl rfl ?_
    refine xG_iload_n d_RF_modify_91 rfl rfl ?_
    obtain ⟨Q2, hM, h⟩ := h
    refine xG_callv (as := [xi v2]) (rest := []) d_RF_modify_92 yv_RF_change w5_137 rfl rfl rfl s0_250 (by decide) rfl hM ⟨by decide, by decide⟩ (Nat.le_of_ble_eq_true rfl) ⟨Nat.zero_le _, Nat.zero_le _⟩ (fun r S2 I2 J2 P2 hp => ?_)
    obtain ⟨rfl, hL2, z2, rfl, hq⟩ := hp
    have h := h z2 I2 J2 P2 hq
    refine xG_istore_n (lv' := [(3, xi z2), (0, xq (some 250)), (1, xi v1), (2, xi v2)]) d_RF_modify_95 rfl (Nat.le_of_ble_eq_true rfl) rfl ?_
    refine xG_iload_n d_RF_modify_96 rfl rfl ?_
    refine xG_if_eq (tgt := 102) d_RF_modify_97 (by decide) (fun c => ?_) (fun c => ?_)
    · have h := h.1 c
      refine xG_aload_n d_RF_modify_102 rfl rfl rfl ?_
      refine xG_bipush (v := 12) d_RF_modify_103 rfl ?_
      obtain ⟨Q3, hM, h⟩ := h
      refine xG_callv (as := [xi 12]) (rest := []) d_RF_modify_105 yv_RF_hasPart w5_117 rfl rfl rfl s0_250 (by decide) rfl hM ⟨by decide, by decide⟩ (Nat.le_of_ble_eq_true rfl) ⟨Nat.zero_le _, Nat.zero_le _⟩ (fun r S3 I3 J3 P3 hp => ?_)
      obtain ⟨rfl, hL3, z3, rfl, hq⟩ := hp
      have h := h z3 I3 J3 P3 hq
      refine xG_if_ne (tgt := 114) d_RF_modify_108 (by decide) (fun c => ?_) (fun c => ?_)
      · have h := h.1 c
        refine xG_aload_n d_RF_modify_114 rfl rfl rfl ?_
        refine xG_bipush (v := 12) d_RF_modify_115 rfl ?_
        obtain ⟨Q4, hM, h⟩ := h
        refine xG_callv (as := [xi 12]) (rest := []) d_RF_modify_117 yv_RF_structural w5_105 rfl rfl rfl s0_250 (by decide) rfl hM ⟨by decide, by decide⟩ (Nat.le_of_ble_eq_true rfl) ⟨Nat.zero_le _, Nat.zero_le _⟩ (fun r S4 I4 J4 P4 hp => ?_)
        obtain ⟨rfl, hL4, z4, rfl, hq⟩ := hp
        have h := h z4 I4 J4 P4 hq
        refine xG_aload_n d_RF_modify_120 rfl rfl rfl ?_
        refine xG_iload_n d_RF_modify_121 rfl rfl ?_
        obtain ⟨Q5, hM, h⟩ := h
        refine xG_callv (as := [xi v1]) (rest := [xi z4]) d_RF_modify_122 yv_RF_structural w5_105 rfl rfl rfl s0_250 (by decide) rfl hM ⟨by decide, by decide⟩ (Nat.le_of_ble_eq_true rfl) ⟨Nat.zero_le _, Nat.zero_le _⟩ (fun r S5 I5 J5 P5 hp => ?_)
        obtain ⟨rfl, hL5, z5, rfl, hq⟩ := hp
        have h := h z5 I5 J5 P5 hq
        refine xG_icmp_eq (tgt := 131) d_RF_modify_125 (by decide) (fun c => ?_) (fun c => ?_)
        · have h := h.1 c
          refine xG_aload_n d_RF_modify_131 rfl rfl rfl ?_
          refine xG_bipush (v := 12) d_RF_modify_132 rfl ?_
          obtain ⟨Q6, hM, h⟩ := h
          refine xG_callv (as := [xi 12]) (rest := []) d_RF_modify_134 yv_RF_fits w5_101 rfl rfl rfl s0_250 (by decide) rfl hM ⟨by decide, by decide⟩ (Nat.le_of_ble_eq_true rfl) ⟨Nat.zero_le _, Nat.zero_le _⟩ (fun r S6 I6 J6 P6 hp => ?_)
          obtain ⟨rfl, hL6, z6, rfl, hq⟩ := hp
          have h := h z6 I6 J6 P6 hq
          refine xG_if_ne (tgt := 143) d_RF_modify_137 (by decide) (fun c => ?_) (fun c => ?_)
          · have h := h.1 c
            refine xG_aload_n d_RF_modify_143 rfl rfl rfl ?_
            refine xG_bipush (v := 12) d_RF_modify_144 rfl ?_
            refine xG_iload_n d_RF_modify_146 rfl rfl ?_
            obtain ⟨Q7, hM, h⟩ := h
            refine xG_callv (as := [xi 12, xi v1]) (rest := []) d_RF_modify_147 yv_RF_copyEntry w5_121 rfl rfl rfl s0_250 (by decide) rfl hM ⟨by decide, by decide⟩ (Nat.le_of_ble_eq_true rfl) ⟨Nat.zero_le _, Nat.zero_le _⟩ (fun r S7 I7 J7 P7 hp => ?_)
            obtain ⟨rfl, hL7, rfl, hq⟩ := hp
            have h := h I7 J7 P7 hq
            refine xG_iconst (v := 0) d_RF_modify_150 rfl ?_
            exact xG_ireturn d_RF_modify_151 rfl rfl ⟨rfl, hL7, _, rfl, h⟩
          · have h := h.2 c
            refine xG_bipush (v := 65) d_RF_modify_140 rfl ?_
            exact xG_ireturn d_RF_modify_142 rfl rfl ⟨rfl, hL6, _, rfl, h⟩
        · have h := h.2 c
          refine xG_bipush (v := 69) d_RF_modify_128 rfl ?_
          exact xG_ireturn d_RF_modify_130 rfl rfl ⟨rfl, hL5, _, rfl, h⟩
      · have h := h.2 c
        refine xG_bipush (v := 67) d_RF_modify_111 rfl ?_
        exact xG_ireturn d_RF_modify_113 rfl rfl ⟨rfl, hL3, _, rfl, h⟩
    · have h := h.2 c
      refine xG_iload_n d_RF_modify_100 rfl rfl ?_
      exact xG_ireturn d_RF_modify_101 rfl rfl ⟨rfl, hL2, _, rfl, h⟩
  · have h := h.2 c
    refine xG_iload_n d_RF_modify_81 rfl rfl ?_
    exact xG_ireturn d_RF_modify_82 rfl rfl ⟨rfl, hL, _, rfl, h⟩
theorem e_RF_modify {l : Launch} {V : xV} {Q : Int32 → xIt → xJt → xPt → Prop} {I : xIt} {J : xJt} {P : xPt}  (h : G_RF_modify l V Q 0 [(0, xq (some 250))] [] I J P) : xMet l V y_RF_modify 6 0 0 [xq (some 250)] xS0 I J P (xPi Q) := xMet_of (by decide) (Nat.le_of_ble_eq_true rfl) h

abbrev G_RF_rename (l : Launch) (V : xV) (Q : Int32 → xIt → xJt → xPt → Prop) (pc : Nat) (lv : List (Nat × xX)) (st : List xX) (I : xIt) (J : xJt) (P : xPt) : Prop := xG l V y_RF_rename (xR 5 0 0) (xFn V y_RF_rename (xR 5 0 0) (xPi Q)) pc lv st xS0 I J P (0, 0)
set_option maxRecDepth 20000 in
theorem b_RF_rename_0 {l : Launch} {V : xV} {Q : Int32 → xIt → xJt → xPt → Prop} {I : xIt} {J : xJt} {P : xPt} (hL : xL P)  (h : (∃ Q1 : Int32 → xIt → xJt → xPt → Prop, xMet l V y_RF_readName 4 0 0 [xq (some 250), xi (I 250 14), xi (I 250 15)] xS0 I J P (xPi Q1) ∧ ∀ (z1 : Int32) (I1 : xIt) (J1 : xJt) (P1 : xPt), Q1 z1 I1 J1 P1 → ((¬ z1 = 1 → Q 34 I1 J1 P1) ∧ (z1 = 1 → (∃ Q2 : Int32 → xIt → xJt → xPt → Prop, xMet l V y_RF_readName 4 0 0 [xq (some 250), xi (I1 250 12), xi (I1 250 13)] xS0 I1 J1 P1 (xPi Q2) ∧ ∀ (z2 : Int32) (I2 : xIt) (J2 : xJt) (P2 : xPt), Q2 z2 I2 J2 P2 → ((0 ≤ z2 → (∃ Q3 : Int32 → xIt → xJt → xPt → Prop, xMet l V y_RF_entryNamed 2 0 0 [xq (some 250), xi 0] xS0 I2 J2 P2 (xPi Q3) ∧ ∀ (z3 : Int32) (I3 : xIt) (J3 : xJt) (P3 : xPt), Q3 z3 I3 J3 P3 → ((0 ≤ z3 → (∃ Q4 : Int32 → xIt → xJt → xPt → Prop, xMet l V y_RF_readName 4 0 0 [xq (some 250), xi (I3 250 14), xi (I3 250 15)] xS0 I3 J3 P3 (xPi Q4) ∧ ∀ (z4 : Int32) (I4 : xIt) (J4 : xJt) (P4 : xPt), Q4 z4 I4 J4 P4 → G_RF_rename l V Q 62 [(0, xq (some 250)), (1, xi z3), (2, xi z4), (3, xi 0)] [] I4 J4 P4)) ∧ (¬ 0 ≤ z3 → Q 32 I3 J3 P3)))) ∧ (¬ 0 ≤ z2 → Q 34 I2 J2 P2))))))) : G_RF_rename l V Q 0 [(0, xq (some 250))] [] I J P := by
  refine xG_aload_n d_RF_rename_0 rfl rfl rfl ?_
  refine xG_aload_n d_RF_rename_1 rfl rfl rfl ?_
  refine xG_geti d_RF_rename_2 xf_RF_112 rfl s0_250 ?_
  refine xG_aload_n d_RF_rename_5 rfl rfl rfl ?_
  refine xG_geti d_RF_rename_6 xf_RF_115 rfl s0_250 ?_
  obtain ⟨Q1, hM, h⟩ := h
  refine xG_callv (as := [xi (I 250 14), xi (I 250 15)]) (rest := []) d_RF_rename_9 yv_RF_readName w5_15 rfl rfl rfl s0_250 (by decide) rfl hM ⟨by decide, by decide⟩ (Nat.le_of_ble_eq_true rfl) ⟨Nat.zero_le _, Nat.zero_le _⟩ (fun r S1 I1 J1 P1 hp => ?_)
  obtain ⟨rfl, hL1, z1, rfl, hq⟩ := hp
  have h := h z1 I1 J1 P1 hq
  refine xG_iconst (v := 1) d_RF_rename_12 rfl ?_
  refine xG_icmp_ne (tgt := 31) d_RF_rename_13 (by decide) (fun c => ?_) (fun c => ?_)
  · have h := h.1 c
    refine xG_bipush (v := 34) d_RF_rename_31 rfl ?_
    exact xG_ireturn d_RF_rename_33 rfl rfl ⟨rfl, hL1, _, rfl, h⟩
  · have h := h.2 c
    refine xG_aload_n d_RF_rename_16 rfl rfl rfl ?_
    refine xG_aload_n d_RF_rename_17 rfl rfl rfl ?_
    refine xG_geti d_RF_rename_18 xf_RF_106 rfl s0_250 ?_
    refine xG_aload_n d_RF_rename_21 rfl rfl rfl ?_
    refine xG_geti d_RF_rename_22 xf_RF_109 rfl s0_250 ?_
    obtain ⟨Q2, hM, h⟩ := h
    refine xG_callv (as := [xi (I1 250 12), xi (I1 250 13)]) (rest := []) d_RF_rename_25 yv_RF_readName w5_15 rfl rfl rfl s0_250 (by decide) rfl hM ⟨by decide, by decide⟩ (Nat.le_of_ble_eq_true rfl) ⟨Nat.zero_le _, Nat.zero_le _⟩ (fun r S2 I2 J2 P2 hp => ?_)
    obtain ⟨rfl, hL2, z2, rfl, hq⟩ := hp
    have h := h z2 I2 J2 P2 hq
    refine xG_if_ge (tgt := 34) d_RF_rename_28 (by decide) (fun c => ?_) (fun c => ?_)
    · have h := h.1 c
      refine xG_aload_n d_RF_rename_34 rfl rfl rfl ?_
      refine xG_iconst (v := 0) d_RF_rename_35 rfl ?_
      obtain ⟨Q3, hM, h⟩ := h
      refine xG_callv (as := [xi 0]) (rest := []) d_RF_rename_36 yv_RF_entryNamed w5_42 rfl rfl rfl s0_250 (by decide) rfl hM ⟨by decide, by decide⟩ (Nat.le_of_ble_eq_true rfl) ⟨Nat.zero_le _, Nat.zero_le _⟩ (fun r S3 I3 J3 P3 hp => ?_)
      obtain ⟨rfl, hL3, z3, rfl, hq⟩ := hp
      have h := h z3 I3 J3 P3 hq
      refine xG_istore_n (lv' := [(1, xi z3), (0, xq (some 250))]) d_RF_rename_39 rfl (Nat.le_of_ble_eq_true rfl) rfl ?_
      refine xG_iload_n d_RF_rename_40 rfl rfl ?_
      refine xG_if_ge (tgt := 47) d_RF_rename_41 (by decide) (fun c => ?_) (fun c => ?_)
      · have h := h.1 c
        refine xG_aload_n d_RF_rename_47 rfl rfl rfl ?_
        refine xG_aload_n d_RF_rename_48 rfl rfl rfl ?_
        refine xG_geti d_RF_rename_49 xf_RF_112 rfl s0_250 ?_
        refine xG_aload_n d_RF_rename_52 rfl rfl rfl ?_
        refine xG_geti d_RF_rename_53 xf_RF_115 rfl s0_250 ?_
        obtain ⟨Q4, hM, h⟩ := h
        refine xG_callv (as := [xi (I3 250 14), xi (I3 250 15)]) (rest := []) d_RF_rename_56 yv_RF_readName w5_15 rfl rfl rfl s0_250 (by decide) rfl hM ⟨by decide, by decide⟩ (Nat.le_of_ble_eq_true rfl) ⟨Nat.zero_le _, Nat.zero_le _⟩ (fun r S4 I4 J4 P4 hp => ?_)
        obtain ⟨rfl, hL4, z4, rfl, hq⟩ := hp
        have h := h z4 I4 J4 P4 hq
        refine xG_istore_n (lv' := [(2, xi z4), (1, xi z3), (0, xq (some 250))]) d_RF_rename_59 rfl (Nat.le_of_ble_eq_true rfl) rfl ?_
        refine xG_iconst (v := 0) d_RF_rename_60 rfl ?_
        refine xG_istore_n (lv' := [(3, xi 0), (2, xi z4), (1, xi z3), (0, xq (some 250))]) d_RF_rename_61 rfl (Nat.le_of_ble_eq_true rfl) rfl ?_
        refine xG_pick [3, 2, 1, 0] rfl ?_
        exact h
      · have h := h.2 c
        refine xG_bipush (v := 32) d_RF_rename_44 rfl ?_
        exact xG_ireturn d_RF_rename_46 rfl rfl ⟨rfl, hL3, _, rfl, h⟩
    · have h := h.2 c
      refine xG_bipush (v := 34) d_RF_rename_31 rfl ?_
      exact xG_ireturn d_RF_rename_33 rfl rfl ⟨rfl, hL2, _, rfl, h⟩
set_option maxRecDepth 20000 in
theorem b_RF_rename_62 {l : Launch} {V : xV} {Q : Int32 → xIt → xJt → xPt → Prop} {I : xIt} {J : xJt} {P : xPt} (hL : xL P) {v1 : Int32} {v2 : Int32} {v3 : Int32} (h : (((I 250 27) ≤ v3 → (∃ Q1 : xIt → xJt → xPt → Prop, xMet l V y_RF_copyEntry 2 0 0 [xq (some 250), xi v1, xi 12] xS0 I J P (xPv Q1) ∧ ∀ (I1 : xIt) (J1 : xJt) (P1 : xPt), Q1 I1 J1 P1 → (((I1 250 11) = 0 → G_RF_rename l V Q 206 [(0, xq (some 250)), (1, xi v1), (2, xi v2), (3, xi v3)] [] I1 J1 P1) ∧ (¬ (I1 250 11) = 0 → (∃ Q2 : Int32 → xIt → xJt → xPt → Prop, xMet l V y_RF_isPart 1 0 0 [xq (some 250), xi v1, xi 0] xS0 I1 J1 P1 (xPi Q2) ∧ ∀ (z2 : Int32) (I2 : xIt) (J2 : xJt) (P2 : xPt), Q2 z2 I2 J2 P2 → ((¬ z2 = 0 → G_RF_rename l V Q 206 [(0, xq (some 250)), (1, xi v1), (2, xi v2), (3, xi v3)] [] I2 J2 P2) ∧ (z2 = 0 → G_RF_rename l V Q 133 [(0, xq (some 250)), (1, xi v1), (2, xi v2), (3, xi 0)] [] I2 J2 P2))))))) ∧ (¬ (I 250 27) ≤ v3 → ((v3 = v1 → G_RF_rename l V Q 62 [(0, xq (some 250)), (1, xi v1), (2, xi v2), (3, xi (v3 + 1))] [] I J P) ∧ (¬ v3 = v1 → (vp_in v3 13 ∧ (vp_in v1 13 ∧ ((¬ (I 263 v3.toNatClampNeg) = (I 263 v1.toNatClampNeg) → G_RF_rename l V Q 62 [(0, xq (some 250)), (1, xi v1), (2, xi v2), (3, xi (v3 + 1))] [] I J P) ∧ ((I 263 v3.toNatClampNeg) = (I 263 v1.toNatClampNeg) → (∃ Q3 : Int32 → xIt → xJt → xPt → Prop, xMet l V y_RF_isPart 1 0 0 [xq (some 250), xi v3, xi 0] xS0 I J P (xPi Q3) ∧ ∀ (z3 : Int32) (I3 : xIt) (J3 : xJt) (P3 : xPt), Q3 z3 I3 J3 P3 → ((z3 = 0 → G_RF_rename l V Q 62 [(0, xq (some 250)), (1, xi v1), (2, xi v2), (3, xi (v3 + 1))] [] I3 J3 P3) ∧ (¬ z3 = 0 → Q 68 I3 J3 P3)))))))))))) : G_RF_rename l V Q 62 [(0, xq (some 250)), (1, xi v1), (2, xi v2), (3, xi v3)] [] I J P := by
  refine xG_iload_n d_RF_rename_62 rfl rfl ?_
  refine xG_aload_n d_RF_rename_63 rfl rfl rfl ?_
  refine xG_geti d_RF_rename_64 xf_RF_211 rfl s0_250 ?_
  refine xG_icmp_ge (tgt := 108) d_RF_rename_67 (by decide) (fun c => ?_) (fun c => ?_)
  · have h := h.1 c
    refine xG_aload_n d_RF_rename_108 rfl rfl rfl ?_
    refine xG_iload_n d_RF_rename_109 rfl rfl ?_
    refine xG_bipush (v := 12) d_RF_rename_110 rfl ?_
    obtain ⟨Q1, hM, h⟩ := h
    refine xG_callv (as := [xi v1, xi 12]) (rest := []) d_RF_rename_112 yv_RF_copyEntry w5_121 rfl rfl rfl s0_250 (by decide) rfl hM ⟨by decide, by decide⟩ (Nat.le_of_ble_eq_true rfl) ⟨Nat.zero_le _, Nat.zero_le _⟩ (fun r S1 I1 J1 P1 hp => ?_)
    obtain ⟨rfl, hL1, rfl, hq⟩ := hp
    have h := h I1 J1 P1 hq
    refine xG_aload_n d_RF_rename_115 rfl rfl rfl ?_
    refine xG_geti d_RF_rename_116 xf_RF_174 rfl s0_250 ?_
    refine xG_if_eq (tgt := 206) d_RF_rename_119 (by decide) (fun c => ?_) (fun c => ?_)
    · have h := h.1 c
      exact h
    · have h := h.2 c
      refine xG_aload_n d_RF_rename_122 rfl rfl rfl ?_
      refine xG_iload_n d_RF_rename_123 rfl rfl ?_
      refine xG_iconst (v := 0) d_RF_rename_124 rfl ?_
      obtain ⟨Q2, hM, h⟩ := h
      refine xG_callv (as := [xi v1, xi 0]) (rest := []) d_RF_rename_125 yv_RF_isPart w5_46 rfl rfl rfl s0_250 (by decide) rfl hM ⟨by decide, by decide⟩ (Nat.le_of_ble_eq_true rfl) ⟨Nat.zero_le _, Nat.zero_le _⟩ (fun r S2 I2 J2 P2 hp => ?_)
      obtain ⟨rfl, hL2, z2, rfl, hq⟩ := hp
      have h := h z2 I2 J2 P2 hq
      refine xG_if_ne (tgt := 206) d_RF_rename_128 (by decide) (fun c => ?_) (fun c => ?_)
      · have h := h.1 c
        exact h
      · have h := h.2 c
        refine xG_iconst (v := 0) d_RF_rename_131 rfl ?_
        refine xG_istore_n (lv' := [(3, xi 0), (0, xq (some 250)), (1, xi v1), (2, xi v2)]) d_RF_rename_132 rfl (Nat.le_of_ble_eq_true rfl) rfl ?_
        refine xG_pick [1, 2, 3, 0] rfl ?_
        exact h
  · have h := h.2 c
    refine xG_iload_n d_RF_rename_70 rfl rfl ?_
    refine xG_iload_n d_RF_rename_71 rfl rfl ?_
    refine xG_icmp_eq (tgt := 102) d_RF_rename_72 (by decide) (fun c => ?_) (fun c => ?_)
    · have h := h.1 c
      refine xG_iinc (v := v3 + 1) (lv' := [(3, xi (v3 + 1)), (0, xq (some 250)), (1, xi v1), (2, xi v2)]) d_RF_rename_102 rfl rfl (Nat.le_of_ble_eq_true rfl) rfl ?_
      refine xG_goto (tgt := 62) d_RF_rename_105 (by decide) ?_
      refine xG_pick [1, 2, 3, 0] rfl ?_
      exact h
    · have h := h.2 c
      refine xG_aload_n d_RF_rename_75 rfl rfl rfl ?_
      refine xG_getq d_RF_rename_76 xf_RF_46 rfl s0_250 ?_
      refine xG_iload_n d_RF_rename_79 rfl rfl ?_
      refine xG_iald d_RF_rename_80 (lp_250_33 hL) s0_263 h.1 ?_
      have h := h.2
      refine xG_aload_n d_RF_rename_81 rfl rfl rfl ?_
      refine xG_getq d_RF_rename_82 xf_RF_46 rfl s0_250 ?_
      refine xG_iload_n d_RF_rename_85 rfl rfl ?_
      refine xG_iald d_RF_rename_86 (lp_250_33 hL) s0_263 h.1 ?_
      have h := h.2
      refine xG_icmp_ne (tgt := 102) d_RF_rename_87 (by decide) (fun c => ?_) (fun c => ?_)
      · have h := h.1 c
        refine xG_iinc (v := v3 + 1) (lv' := [(3, xi (v3 + 1)), (0, xq (some 250)), (1, xi v1), (2, xi v2)]) d_RF_rename_102 rfl rfl (Nat.le_of_ble_eq_true rfl) rfl ?_
        refine xG_goto (tgt := 62) d_RF_rename_105 (by decide) ?_
        refine xG_pick [1, 2, 3, 0] rfl ?_
        exact h
      · have h := h.2 c
        refine xG_aload_n d_RF_rename_90 rfl rfl rfl ?_
        refine xG_iload_n d_RF_rename_91 rfl rfl ?_
        refine xG_iconst (v := 0) d_RF_rename_92 rfl ?_
        obtain ⟨Q3, hM, h⟩ := h
        refine xG_callv (as := [xi v3, xi 0]) (rest := []) d_RF_rename_93 yv_RF_isPart w5_46 rfl rfl rfl s0_250 (by decide) rfl hM ⟨by decide, by decide⟩ (Nat.le_of_ble_eq_true rfl) ⟨Nat.zero_le _, Nat.zero_le _⟩ (fun r S3 I3 J3 P3 hp => ?_)
        obtain ⟨rfl, hL3, z3, rfl, hq⟩ := hp
        have h := h z3 I3 J3 P3 hq
        refine xG_if_eq (tgt := 102) d_RF_rename_96 (by decide) (fun c => ?_) (fun c => ?_)
        · have h := h.1 c
          refine xG_iinc (v := v3 + 1) (lv' := [(3, xi (v3 + 1)), (0, xq (some 250)), (1, xi v1), (2, xi v2)]) d_RF_rename_102 rfl rfl (Nat.le_of_ble_eq_true rfl) rfl ?_
          refine xG_goto (tgt := 62) d_RF_rename_105 (by decide) ?_
          refine xG_pick [1, 2, 3, 0] rfl ?_
          exact h
        · have h := h.2 c
          refine xG_bipush (v := 68) d_RF_rename_99 rfl ?_
          exact xG_ireturn d_RF_rename_101 rfl rfl ⟨rfl, hL3, _, rfl, h⟩
set_option maxRecDepth 20000 in
theorem b_RF_rename_133 {l : Launch} {V : xV} {Q : Int32 → xIt → xJt → xPt → Prop} {I : xIt} {J : xJt} {P : xPt} (hL : xL P) {v1 : Int32} {v2 : Int32} {v3 : Int32} (h : (vp_in v1 13 ∧ (((I 265 v1.toNatClampNeg) ≤ v3 → (vp_in v1 13 ∧ (vp_in v1 13 ∧ (∃ Q1 : Int32 → xIt → xJt → xPt → Prop, xMet l V y_RF_placeOf 1 0 0 [xq (some 250), xi 12, xi (I 264 v1.toNatClampNeg), xi 3, xi (I 265 v1.toNatClampNeg)] xS0 I J P (xPi Q1) ∧ ∀ (z1 : Int32) (I1 : xIt) (J1 : xJt) (P1 : xPt), Q1 z1 I1 J1 P1 → ((z1 < 0 → G_RF_rename l V Q 206 [(0, xq (some 250)), (1, xi v1), (2, xi v2), (3, xi z1)] [] I1 J1 P1) ∧ (¬ z1 < 0 → (vp_in v1 13 ∧ (∃ Q2 : xIt → xJt → xPt → Prop, xMet l V y_RF_takeAway 2 0 0 [xq (some 250), xi 12, xi (I1 264 v1.toNatClampNeg), xi z1] xS0 I1 J1 P1 (xPv Q2) ∧ ∀ (I2 : xIt) (J2 : xJt) (P2 : xPt), Q2 I2 J2 P2 → G_RF_rename l V Q 206 [(0, xq (some 250)), (1, xi v1), (2, xi v2), (3, xi z1)] [] I2 J2 P2)))))))) ∧ (¬ (I 265 v1.toNatClampNeg) ≤ v3 → (vp_in ((6 * v1) + v3) 78 ∧ (vp_in (24 + v3) 40 ∧ G_RF_rename l V Q 133 [(0, xq (some 250)), (1, xi v1), (2, xi v2), (3, xi (v3 + 1))] [] (xu I 255 ((24 + v3).toNatClampNeg) (I 266 (((6 * v1) + v3).toNatClampNeg))) J P)))))) : G_RF_rename l V Q 133 [(0, xq (some 250)), (1, xi v1), (2, xi v2), (3, xi v3)] [] I J P := by
  refine xG_iload_n d_RF_rename_133 rfl rfl ?_
  refine xG_aload_n d_RF_rename_134 rfl rfl rfl ?_
  refine xG_getq d_RF_rename_135 xf_RF_52 rfl s0_250 ?_
  refine xG_iload_n d_RF_rename_138 rfl rfl ?_
  refine xG_iald d_RF_rename_139 (lp_250_35 hL) s0_265 h.1 ?_
  have h := h.2
  refine xG_icmp_ge (tgt := 169) d_RF_rename_140 (by decide) (fun c => ?_) (fun c => ?_)
  · have h := h.1 c
    refine xG_aload_n d_RF_rename_169 rfl rfl rfl ?_
    refine xG_bipush (v := 12) d_RF_rename_170 rfl ?_
    refine xG_aload_n d_RF_rename_172 rfl rfl rfl ?_
    refine xG_getq d_RF_rename_173 xf_RF_49 rfl s0_250 ?_
    refine xG_iload_n d_RF_rename_176 rfl rfl ?_
    refine xG_iald d_RF_rename_177 (lp_250_34 hL) s0_264 h.1 ?_
    have h := h.2
    refine xG_iconst (v := 3) d_RF_rename_178 rfl ?_
    refine xG_aload_n d_RF_rename_179 rfl rfl rfl ?_
    refine xG_getq d_RF_rename_180 xf_RF_52 rfl s0_250 ?_
    refine xG_iload_n d_RF_rename_183 rfl rfl ?_
    refine xG_iald d_RF_rename_184 (lp_250_35 hL) s0_265 h.1 ?_
    have h := h.2
    obtain ⟨Q1, hM, h⟩ := h
    refine xG_callv (as := [xi 12, xi (I 264 v1.toNatClampNeg), xi 3, xi (I 265 v1.toNatClampNeg)]) (rest := []) d_RF_rename_185 yv_RF_placeOf w5_54 rfl rfl rfl s0_250 (by decide) rfl hM ⟨by decide, by decide⟩ (Nat.le_of_ble_eq_true rfl) ⟨Nat.zero_le _, Nat.zero_le _⟩ (fun r S1 I1 J1 P1 hp => ?_)
    obtain ⟨rfl, hL1, z1, rfl, hq⟩ := hp
    have h := h z1 I1 J1 P1 hq
    refine xG_istore_n (lv' := [(3, xi z1), (0, xq (some 250)), (1, xi v1), (2, xi v2)]) d_RF_rename_188 rfl (Nat.le_of_ble_eq_true rfl) rfl ?_
    refine xG_iload_n d_RF_rename_189 rfl rfl ?_
    refine xG_if_lt (tgt := 206) d_RF_rename_190 (by decide) (fun c => ?_) (fun c => ?_)
    · have h := h.1 c
      refine xG_pick [1, 2, 3, 0] rfl ?_
      exact h
    · have h := h.2 c
      refine xG_aload_n d_RF_rename_193 rfl rfl rfl ?_
      refine xG_bipush (v := 12) d_RF_rename_194 rfl ?_
      refine xG_aload_n d_RF_rename_196 rfl rfl rfl ?_
      refine xG_getq d_RF_rename_197 xf_RF_49 rfl s0_250 ?_
      refine xG_iload_n d_RF_rename_200 rfl rfl ?_
      refine xG_iald d_RF_rename_201 (lp_250_34 hL1) s0_264 h.1 ?_
      have h := h.2
      refine xG_iload_n d_RF_rename_202 rfl rfl ?_
      obtain ⟨Q2, hM, h⟩ := h
      refine xG_callv (as := [xi 12, xi (I1 264 v1.toNatClampNeg), xi z1]) (rest := []) d_RF_rename_203 yv_RF_takeAway w5_141 rfl rfl rfl s0_250 (by decide) rfl hM ⟨by decide, by decide⟩ (Nat.le_of_ble_eq_true rfl) ⟨Nat.zero_le _, Nat.zero_le _⟩ (fun r S2 I2 J2 P2 hp => ?_)
      obtain ⟨rfl, hL2, rfl, hq⟩ := hp
      have h := h I2 J2 P2 hq
      refine xG_pick [1, 2, 3, 0] rfl ?_
      exact h
  · have h := h.2 c
    refine xG_aload_n d_RF_rename_143 rfl rfl rfl ?_
    refine xG_getq d_RF_rename_144 xf_RF_22 rfl s0_250 ?_
    refine xG_bipush (v := 24) d_RF_rename_147 rfl ?_
    refine xG_iload_n d_RF_rename_149 rfl rfl ?_
    refine xG_iadd d_RF_rename_150 ?_
    refine xG_aload_n d_RF_rename_151 rfl rfl rfl ?_
    refine xG_getq d_RF_rename_152 xf_RF_55 rfl s0_250 ?_
    refine xG_bipush (v := 6) d_RF_rename_155 rfl ?_
    refine xG_iload_n d_RF_rename_157 rfl rfl ?_
    refine xG_imul d_RF_rename_158 ?_
    refine xG_iload_n d_RF_rename_159 rfl rfl ?_
    refine xG_iadd d_RF_rename_160 ?_
    refine xG_iald d_RF_rename_161 (lp_250_36 hL) s0_266 h.1 ?_
    have h := h.2
    refine xG_topi (x' := I 266 (((6 * v1) + v3).toNatClampNeg)) (by first | rfl | exact xu_at | simp [xu]) ?_
    refine xG_iast d_RF_rename_162 (lp_250_23 hL) s0_255 h.1 ?_
    have h := h.2
    refine xG_iinc (v := v3 + 1) (lv' := [(3, xi (v3 + 1)), (0, xq (some 250)), (1, xi v1), (2, xi v2)]) d_RF_rename_163 rfl rfl (Nat.le_of_ble_eq_true rfl) rfl ?_
    refine xG_goto (tgt := 133) d_RF_rename_166 (by decide) ?_
    refine xG_pick [1, 2, 3, 0] rfl ?_
    exact h
set_option maxRecDepth 20000 in
theorem b_RF_rename_206 {l : Launch} {V : xV} {Q : Int32 → xIt → xJt → xPt → Prop} {I : xIt} {J : xJt} {P : xPt} (hL : xL P) {v1 : Int32} {v2 : Int32} {v3 : Int32} (h : ((¬ v2 = 1 → G_RF_rename l V Q 268 [(0, xq (some 250)), (1, xi v1), (2, xi v2), (3, xi (I 256 0))] [] I J P) ∧ (v2 = 1 → (∃ Q1 : Int32 → xIt → xJt → xPt → Prop, xMet l V y_RF_placeOf 1 0 0 [xq (some 250), xi 12, xi (I 256 0), xi 0, xi (I 257 0)] xS0 I J P (xPi Q1) ∧ ∀ (z1 : Int32) (I1 : xIt) (J1 : xJt) (P1 : xPt), Q1 z1 I1 J1 P1 → ((0 ≤ z1 → G_RF_rename l V Q 268 [(0, xq (some 250)), (1, xi v1), (2, xi v2), (3, xi (I 256 0))] [] I1 J1 P1) ∧ (¬ 0 ≤ z1 → (vp_in (60 + (I 256 0)) 65 ∧ (∃ Q2 : Int32 → xIt → xJt → xPt → Prop, xMet l V y_RF_most 1 0 0 [xi (I 256 0)] xS0 I1 J1 P1 (xPi Q2) ∧ ∀ (z2 : Int32) (I2 : xIt) (J2 : xJt) (P2 : xPt), Q2 z2 I2 J2 P2 → ((¬ (I1 258 ((60 + (I 256 0)).toNatClampNeg)) = z2 → (∃ Q3 : xIt → xJt → xPt → Prop, xMet l V y_RF_append 1 0 0 [xq (some 250), xi 12, xi (I 256 0), xi 0, xi (I2 257 0)] xS0 I2 J2 P2 (xPv Q3) ∧ ∀ (I3 : xIt) (J3 : xJt) (P3 : xPt), Q3 I3 J3 P3 → G_RF_rename l V Q 268 [(0, xq (some 250)), (1, xi v1), (2, xi v2), (3, xi (I 256 0))] [] I3 J3 P3)) ∧ ((I1 258 ((60 + (I 256 0)).toNatClampNeg)) = z2 → Q 19 I2 J2 P2)))))))))) : G_RF_rename l V Q 206 [(0, xq (some 250)), (1, xi v1), (2, xi v2), (3, xi v3)] [] I J P := by
  refine xG_aload_n d_RF_rename_206 rfl rfl rfl ?_
  refine xG_getq d_RF_rename_207 xf_RF_25 rfl s0_250 ?_
  refine xG_iconst (v := 0) d_RF_rename_210 rfl ?_
  refine xG_iald d_RF_rename_211 (lp_250_25 hL) s0_256 (x_vp (by decide)) ?_
  refine xG_topi (x' := I 256 0) (by first | rfl | exact xu_at | simp [xu]) ?_
  refine xG_istore_n (lv' := [(3, xi (I 256 0)), (0, xq (some 250)), (1, xi v1), (2, xi v2)]) d_RF_rename_212 rfl (Nat.le_of_ble_eq_true rfl) rfl ?_
  refine xG_iload_n d_RF_rename_213 rfl rfl ?_
  refine xG_iconst (v := 1) d_RF_rename_214 rfl ?_
  refine xG_icmp_ne (tgt := 268) d_RF_rename_215 (by decide) (fun c => ?_) (fun c => ?_)
  · have h := h.1 c
    refine xG_pick [1, 2, 3, 0] rfl ?_
    exact h
  · have h := h.2 c
    refine xG_aload_n d_RF_rename_218 rfl rfl rfl ?_
    refine xG_bipush (v := 12) d_RF_rename_219 rfl ?_
    refine xG_iload_n d_RF_rename_221 rfl rfl ?_
    refine xG_iconst (v := 0) d_RF_rename_222 rfl ?_
    refine xG_aload_n d_RF_rename_223 rfl rfl rfl ?_
    refine xG_getq d_RF_rename_224 xf_RF_28 rfl s0_250 ?_
    refine xG_iconst (v := 0) d_RF_rename_227 rfl ?_
    refine xG_iald d_RF_rename_228 (lp_250_26 hL) s0_257 (x_vp (by decide)) ?_
    refine xG_topi (x' := I 257 0) (by first | rfl | exact xu_at | simp [xu]) ?_
    obtain ⟨Q1, hM, h⟩ := h
    refine xG_callv (as := [xi 12, xi (I 256 0), xi 0, xi (I 257 0)]) (rest := []) d_RF_rename_229 yv_RF_placeOf w5_54 rfl rfl rfl s0_250 (by decide) rfl hM ⟨by decide, by decide⟩ (Nat.le_of_ble_eq_true rfl) ⟨Nat.zero_le _, Nat.zero_le _⟩ (fun r S1 I1 J1 P1 hp => ?_)
    obtain ⟨rfl, hL1, z1, rfl, hq⟩ := hp
    have h := h z1 I1 J1 P1 hq
    refine xG_if_ge (tgt := 268) d_RF_rename_232 (by decide) (fun c => ?_) (fun c => ?_)
    · have h := h.1 c
      refine xG_pick [1, 2, 3, 0] rfl ?_
      exact h
    · have h := h.2 c
      refine xG_aload_n d_RF_rename_235 rfl rfl rfl ?_
      refine xG_getq d_RF_rename_236 xf_RF_31 rfl s0_250 ?_
      refine xG_bipush (v := 60) d_RF_rename_239 rfl ?_
      refine xG_iload_n d_RF_rename_241 rfl rfl ?_
      refine xG_iadd d_RF_rename_242 ?_
      refine xG_iald d_RF_rename_243 (lp_250_28 hL1) s0_258 h.1 ?_
      have h := h.2
      refine xG_topi (x' := I1 258 ((60 + (I 256 0)).toNatClampNeg)) (by first | rfl | exact xu_at | simp [xu]) ?_
      refine xG_iload_n d_RF_rename_244 rfl rfl ?_
      obtain ⟨Q2, hM, h⟩ := h
      refine xG_calls (as := [xi (I 256 0)]) (rest := [xi (I1 258 ((60 + (I 256 0)).toNatClampNeg))]) d_RF_rename_245 ys_RF_most w5_90 rfl rfl hM ⟨by decide, by decide⟩ (Nat.le_of_ble_eq_true rfl) ⟨Nat.zero_le _, Nat.zero_le _⟩ (fun r S2 I2 J2 P2 hp => ?_)
      obtain ⟨rfl, hL2, z2, rfl, hq⟩ := hp
      have h := h z2 I2 J2 P2 hq
      refine xG_icmp_ne (tgt := 254) d_RF_rename_248 (by decide) (fun c => ?_) (fun c => ?_)
      · have h := h.1 c
        refine xG_aload_n d_RF_rename_254 rfl rfl rfl ?_
        refine xG_bipush (v := 12) d_RF_rename_255 rfl ?_
        refine xG_iload_n d_RF_rename_257 rfl rfl ?_
        refine xG_iconst (v := 0) d_RF_rename_258 rfl ?_
        refine xG_aload_n d_RF_rename_259 rfl rfl rfl ?_
        refine xG_getq d_RF_rename_260 xf_RF_28 rfl s0_250 ?_
        refine xG_iconst (v := 0) d_RF_rename_263 rfl ?_
        refine xG_iald d_RF_rename_264 (lp_250_26 hL2) s0_257 (x_vp (by decide)) ?_
        refine xG_topi (x' := I2 257 0) (by first | rfl | exact xu_at | simp [xu]) ?_
        obtain ⟨Q3, hM, h⟩ := h
        refine xG_callv (as := [xi 12, xi (I 256 0), xi 0, xi (I2 257 0)]) (rest := []) d_RF_rename_265 yv_RF_append w5_97 rfl rfl rfl s0_250 (by decide) rfl hM ⟨by decide, by decide⟩ (Nat.le_of_ble_eq_true rfl) ⟨Nat.zero_le _, Nat.zero_le _⟩ (fun r S3 I3 J3 P3 hp => ?_)
        obtain ⟨rfl, hL3, rfl, hq⟩ := hp
        have h := h I3 J3 P3 hq
        refine xG_pick [1, 2, 3, 0] rfl ?_
        exact h
      · have h := h.2 c
        refine xG_bipush (v := 19) d_RF_rename_251 rfl ?_
        exact xG_ireturn d_RF_rename_253 rfl rfl ⟨rfl, hL2, _, rfl, h⟩
set_option maxRecDepth 20000 in
theorem b_RF_rename_268 {l : Launch} {V : xV} {Q : Int32 → xIt → xJt → xPt → Prop} {I : xIt} {J : xJt} {P : xPt} (hL : xL P) {v1 : Int32} {v2 : Int32} {v3 : Int32} (h : (∃ Q1 : Int32 → xIt → xJt → xPt → Prop, xMet l V y_RF_fits 4 0 0 [xq (some 250), xi 12] xS0 I J P (xPi Q1) ∧ ∀ (z1 : Int32) (I1 : xIt) (J1 : xJt) (P1 : xPt), Q1 z1 I1 J1 P1 → ((¬ z1 = 0 → (∃ Q2 : xIt → xJt → xPt → Prop, xMet l V y_RF_setPart 1 0 0 [xq (some 250), xi 12] xS0 I1 J1 P1 (xPv Q2) ∧ ∀ (I2 : xIt) (J2 : xJt) (P2 : xPt), Q2 I2 J2 P2 → (∃ Q3 : xIt → xJt → xPt → Prop, xMet l V y_RF_copyEntry 2 0 0 [xq (some 250), xi 12, xi v1] xS0 I2 J2 P2 (xPv Q3) ∧ ∀ (I3 : xIt) (J3 : xJt) (P3 : xPt), Q3 I3 J3 P3 → Q 0 I3 J3 P3))) ∧ (z1 = 0 → Q 65 I1 J1 P1)))) : G_RF_rename l V Q 268 [(0, xq (some 250)), (1, xi v1), (2, xi v2), (3, xi v3)] [] I J P := by
  refine xG_aload_n d_RF_rename_268 rfl rfl rfl ?_
  refine xG_bipush (v := 12) d_RF_rename_269 rfl ?_
  obtain ⟨Q1, hM, h⟩ := h
  refine xG_callv (as := [xi 12]) (rest := []) d_RF_rename_271 yv_RF_fits w5_101 rfl rfl rfl s0_250 (by decide) rfl hM ⟨by decide, by decide⟩ (Nat.le_of_ble_eq_true rfl) ⟨Nat.zero_le _, Nat.zero_le _⟩ (fun r S1 I1 J1 P1 hp => ?_)
  obtain ⟨rfl, hL1, z1, rfl, hq⟩ := hp
  have h := h z1 I1 J1 P1 hq
  refine xG_if_ne (tgt := 280) d_RF_rename_274 (by decide) (fun c => ?_) (fun c => ?_)
  · have h := h.1 c
    refine xG_aload_n d_RF_rename_280 rfl rfl rfl ?_
    refine xG_bipush (v := 12) d_RF_rename_281 rfl ?_
    obtain ⟨Q2, hM, h⟩ := h
    refine xG_callv (as := [xi 12]) (rest := []) d_RF_rename_283 yv_RF_setPart w5_113 rfl rfl rfl s0_250 (by decide) rfl hM ⟨by decide, by decide⟩ (Nat.le_of_ble_eq_true rfl) ⟨Nat.zero_le _, Nat.zero_le _⟩ (fun r S2 I2 J2 P2 hp => ?_)
    obtain ⟨rfl, hL2, rfl, hq⟩ := hp
    have h := h I2 J2 P2 hq
    refine xG_aload_n d_RF_rename_286 rfl rfl rfl ?_
    refine xG_bipush (v := 12) d_RF_rename_287 rfl ?_
    refine xG_iload_n d_RF_rename_289 rfl rfl ?_
    obtain ⟨Q3, hM, h⟩ := h
    refine xG_callv (as := [xi 12, xi v1]) (rest := []) d_RF_rename_290 yv_RF_copyEntry w5_121 rfl rfl rfl s0_250 (by decide) rfl hM ⟨by decide, by decide⟩ (Nat.le_of_ble_eq_true rfl) ⟨Nat.zero_le _, Nat.zero_le _⟩ (fun r S3 I3 J3 P3 hp => ?_)
    obtain ⟨rfl, hL3, rfl, hq⟩ := hp
    have h := h I3 J3 P3 hq
    refine xG_iconst (v := 0) d_RF_rename_293 rfl ?_
    exact xG_ireturn d_RF_rename_294 rfl rfl ⟨rfl, hL3, _, rfl, h⟩
  · have h := h.2 c
    refine xG_bipush (v := 65) d_RF_rename_277 rfl ?_
    exact xG_ireturn d_RF_rename_279 rfl rfl ⟨rfl, hL1, _, rfl, h⟩
theorem e_RF_rename {l : Launch} {V : xV} {Q : Int32 → xIt → xJt → xPt → Prop} {I : xIt} {J : xJt} {P : xPt}  (h : G_RF_rename l V Q 0 [(0, xq (some 250))] [] I J P) : xMet l V y_RF_rename 5 0 0 [xq (some 250)] xS0 I J P (xPi Q) := xMet_of (by decide) (Nat.le_of_ble_eq_true rfl) h

abbrev G_RF_compare (l : Launch) (V : xV) (Q : Int32 → xIt → xJt → xPt → Prop) (pc : Nat) (lv : List (Nat × xX)) (st : List xX) (I : xIt) (J : xJt) (P : xPt) : Prop := xG l V y_RF_compare (xR 5 0 0) (xFn V y_RF_compare (xR 5 0 0) (xPi Q)) pc lv st xS0 I J P (0, 0)
set_option maxRecDepth 20000 in
theorem b_RF_compare_0 {l : Launch} {V : xV} {Q : Int32 → xIt → xJt → xPt → Prop} {I : xIt} {J : xJt} {P : xPt} (hL : xL P)  (h : (∃ Q1 : Int32 → xIt → xJt → xPt → Prop, xMet l V y_RF_readName 4 0 0 [xq (some 250), xi (I 250 12), xi (I 250 13)] xS0 I J P (xPi Q1) ∧ ∀ (z1 : Int32) (I1 : xIt) (J1 : xJt) (P1 : xPt), Q1 z1 I1 J1 P1 → ((0 ≤ z1 → (∃ Q2 : Int32 → xIt → xJt → xPt → Prop, xMet l V y_RF_entryNamed 2 0 0 [xq (some 250), xi 0] xS0 I1 J1 P1 (xPi Q2) ∧ ∀ (z2 : Int32) (I2 : xIt) (J2 : xJt) (P2 : xPt), Q2 z2 I2 J2 P2 → ((0 ≤ z2 → (∃ Q3 : Int32 → xIt → xJt → xPt → Prop, xMet l V y_RF_typeAt 2 0 0 [xq (some 250), xi (I2 250 14), xi (I2 250 15)] xS0 I2 J2 P2 (xPi Q3) ∧ ∀ (z3 : Int32) (I3 : xIt) (J3 : xJt) (P3 : xPt), Q3 z3 I3 J3 P3 → ((0 ≤ z3 → (∃ Q4 : xIt → xJt → xPt → Prop, xMet l V y_RF_load 1 0 0 [xq (some 250), xi (I3 250 16), xi (I3 250 17)] xS0 I3 J3 P3 (xPv Q4) ∧ ∀ (I4 : xIt) (J4 : xJt) (P4 : xPt), Q4 I4 J4 P4 → (∃ Q5 : Int32 → xIt → xJt → xPt → Prop, xMet l V y_RF_formOf 3 0 0 [xq (some 250), xi z3, xi 3] xS0 I4 J4 P4 (xPi Q5) ∧ ∀ (z5 : Int32) (I5 : xIt) (J5 : xJt) (P5 : xPt), Q5 z5 I5 J5 P5 → ((0 ≤ z5 → (vp_in ((5 * z2) + z3) 65 ∧ ((¬ (I5 258 (((5 * z2) + z3).toNatClampNeg)) = 0 → (∃ Q6 : Int32 → xIt → xJt → xPt → Prop, xMet l V y_RF_placeOf 1 0 0 [xq (some 250), xi z2, xi z3, xi 3, xi z5] xS0 I5 J5 P5 (xPi Q6) ∧ ∀ (z6 : Int32) (I6 : xIt) (J6 : xJt) (P6 : xPt), Q6 z6 I6 J6 P6 → ((z6 < 0 → Q 5 I6 J6 P6) ∧ (¬ z6 < 0 → Q 6 I6 J6 P6)))) ∧ ((I5 258 (((5 * z2) + z3).toNatClampNeg)) = 0 → Q 16 I5 J5 P5)))) ∧ (¬ 0 ≤ z5 → Q 21 I5 J5 P5))))) ∧ (¬ 0 ≤ z3 → Q 17 I3 J3 P3)))) ∧ (¬ 0 ≤ z2 → Q 32 I2 J2 P2)))) ∧ (¬ 0 ≤ z1 → Q 34 I1 J1 P1)))) : G_RF_compare l V Q 0 [(0, xq (some 250))] [] I J P := by
  refine xG_aload_n d_RF_compare_0 rfl rfl rfl ?_
  refine xG_aload_n d_RF_compare_1 rfl rfl rfl ?_
  refine xG_geti d_RF_compare_2 xf_RF_106 rfl s0_250 ?_
  refine xG_aload_n d_RF_compare_5 rfl rfl rfl ?_
  refine xG_geti d_RF_compare_6 xf_RF_109 rfl s0_250 ?_
  obtain ⟨Q1, hM, h⟩ := h
  refine xG_callv (as := [xi (I 250 12), xi (I 250 13)]) (rest := []) d_RF_compare_9 yv_RF_readName w5_15 rfl rfl rfl s0_250 (by decide) rfl hM ⟨by decide, by decide⟩ (Nat.le_of_ble_eq_true rfl) ⟨Nat.zero_le _, Nat.zero_le _⟩ (fun r S1 I1 J1 P1 hp => ?_)
  obtain ⟨rfl, hL1, z1, rfl, hq⟩ := hp
  have h := h z1 I1 J1 P1 hq
  refine xG_if_ge (tgt := 18) d_RF_compare_12 (by decide) (fun c => ?_) (fun c => ?_)
  · have h := h.1 c
    refine xG_aload_n d_RF_compare_18 rfl rfl rfl ?_
    refine xG_iconst (v := 0) d_RF_compare_19 rfl ?_
    obtain ⟨Q2, hM, h⟩ := h
    refine xG_callv (as := [xi 0]) (rest := []) d_RF_compare_20 yv_RF_entryNamed w5_42 rfl rfl rfl s0_250 (by decide) rfl hM ⟨by decide, by decide⟩ (Nat.le_of_ble_eq_true rfl) ⟨Nat.zero_le _, Nat.zero_le _⟩ (fun r S2 I2 J2 P2 hp => ?_)
    obtain ⟨rfl, hL2, z2, rfl, hq⟩ := hp
    have h := h z2 I2 J2 P2 hq
    refine xG_istore_n (lv' := [(1, xi z2), (0, xq (some 250))]) d_RF_compare_23 rfl (Nat.le_of_ble_eq_true rfl) rfl ?_
    refine xG_iload_n d_RF_compare_24 rfl rfl ?_
    refine xG_if_ge (tgt := 31) d_RF_compare_25 (by decide) (fun c => ?_) (fun c => ?_)
    · have h := h.1 c
      refine xG_aload_n d_RF_compare_31 rfl rfl rfl ?_
      refine xG_aload_n d_RF_compare_32 rfl rfl rfl ?_
      refine xG_geti d_RF_compare_33 xf_RF_112 rfl s0_250 ?_
      refine xG_aload_n d_RF_compare_36 rfl rfl rfl ?_
      refine xG_geti d_RF_compare_37 xf_RF_115 rfl s0_250 ?_
      obtain ⟨Q3, hM, h⟩ := h
      refine xG_callv (as := [xi (I2 250 14), xi (I2 250 15)]) (rest := []) d_RF_compare_40 yv_RF_typeAt w5_19 rfl rfl rfl s0_250 (by decide) rfl hM ⟨by decide, by decide⟩ (Nat.le_of_ble_eq_true rfl) ⟨Nat.zero_le _, Nat.zero_le _⟩ (fun r S3 I3 J3 P3 hp => ?_)
      obtain ⟨rfl, hL3, z3, rfl, hq⟩ := hp
      have h := h z3 I3 J3 P3 hq
      refine xG_istore_n (lv' := [(2, xi z3), (1, xi z2), (0, xq (some 250))]) d_RF_compare_43 rfl (Nat.le_of_ble_eq_true rfl) rfl ?_
      refine xG_iload_n d_RF_compare_44 rfl rfl ?_
      refine xG_if_ge (tgt := 51) d_RF_compare_45 (by decide) (fun c => ?_) (fun c => ?_)
      · have h := h.1 c
        refine xG_aload_n d_RF_compare_51 rfl rfl rfl ?_
        refine xG_aload_n d_RF_compare_52 rfl rfl rfl ?_
        refine xG_geti d_RF_compare_53 xf_RF_118 rfl s0_250 ?_
        refine xG_aload_n d_RF_compare_56 rfl rfl rfl ?_
        refine xG_geti d_RF_compare_57 xf_RF_121 rfl s0_250 ?_
        obtain ⟨Q4, hM, h⟩ := h
        refine xG_callv (as := [xi (I3 250 16), xi (I3 250 17)]) (rest := []) d_RF_compare_60 yv_RF_load w5_50 rfl rfl rfl s0_250 (by decide) rfl hM ⟨by decide, by decide⟩ (Nat.le_of_ble_eq_true rfl) ⟨Nat.zero_le _, Nat.zero_le _⟩ (fun r S4 I4 J4 P4 hp => ?_)
        obtain ⟨rfl, hL4, rfl, hq⟩ := hp
        have h := h I4 J4 P4 hq
        refine xG_aload_n d_RF_compare_63 rfl rfl rfl ?_
        refine xG_iload_n d_RF_compare_64 rfl rfl ?_
        refine xG_iconst (v := 3) d_RF_compare_65 rfl ?_
        obtain ⟨Q5, hM, h⟩ := h
        refine xG_callv (as := [xi z3, xi 3]) (rest := []) d_RF_compare_66 yv_RF_formOf w5_30 rfl rfl rfl s0_250 (by decide) rfl hM ⟨by decide, by decide⟩ (Nat.le_of_ble_eq_true rfl) ⟨Nat.zero_le _, Nat.zero_le _⟩ (fun r S5 I5 J5 P5 hp => ?_)
        obtain ⟨rfl, hL5, z5, rfl, hq⟩ := hp
        have h := h z5 I5 J5 P5 hq
        refine xG_istore_n (lv' := [(3, xi z5), (2, xi z3), (1, xi z2), (0, xq (some 250))]) d_RF_compare_69 rfl (Nat.le_of_ble_eq_true rfl) rfl ?_
        refine xG_iload_n d_RF_compare_70 rfl rfl ?_
        refine xG_if_ge (tgt := 77) d_RF_compare_71 (by decide) (fun c => ?_) (fun c => ?_)
        · have h := h.1 c
          refine xG_aload_n d_RF_compare_77 rfl rfl rfl ?_
          refine xG_getq d_RF_compare_78 xf_RF_31 rfl s0_250 ?_
          refine xG_iconst (v := 5) d_RF_compare_81 rfl ?_
          refine xG_iload_n d_RF_compare_82 rfl rfl ?_
          refine xG_imul d_RF_compare_83 ?_
          refine xG_iload_n d_RF_compare_84 rfl rfl ?_
          refine xG_iadd d_RF_compare_85 ?_
          refine xG_iald d_RF_compare_86 (lp_250_28 hL5) s0_258 h.1 ?_
          have h := h.2
          refine xG_topi (x' := I5 258 (((5 * z2) + z3).toNatClampNeg)) (by first | rfl | exact xu_at | simp [xu]) ?_
          refine xG_if_ne (tgt := 93) d_RF_compare_87 (by decide) (fun c => ?_) (fun c => ?_)
          · have h := h.1 c
            refine xG_aload_n d_RF_compare_93 rfl rfl rfl ?_
            refine xG_iload_n d_RF_compare_94 rfl rfl ?_
            refine xG_iload_n d_RF_compare_95 rfl rfl ?_
            refine xG_iconst (v := 3) d_RF_compare_96 rfl ?_
            refine xG_iload_n d_RF_compare_97 rfl rfl ?_
            obtain ⟨Q6, hM, h⟩ := h
            refine xG_callv (as := [xi z2, xi z3, xi 3, xi z5]) (rest := []) d_RF_compare_98 yv_RF_placeOf w5_54 rfl rfl rfl s0_250 (by decide) rfl hM ⟨by decide, by decide⟩ (Nat.le_of_ble_eq_true rfl) ⟨Nat.zero_le _, Nat.zero_le _⟩ (fun r S6 I6 J6 P6 hp => ?_)
            obtain ⟨rfl, hL6, z6, rfl, hq⟩ := hp
            have h := h z6 I6 J6 P6 hq
            refine xG_if_lt (tgt := 109) d_RF_compare_101 (by decide) (fun c => ?_) (fun c => ?_)
            · have h := h.1 c
              refine xG_iconst (v := 5) d_RF_compare_109 rfl ?_
              exact xG_ireturn d_RF_compare_110 rfl rfl ⟨rfl, hL6, _, rfl, h⟩
            · have h := h.2 c
              refine xG_bipush (v := 6) d_RF_compare_104 rfl ?_
              refine xG_goto (tgt := 110) d_RF_compare_106 (by decide) ?_
              exact xG_ireturn d_RF_compare_110 rfl rfl ⟨rfl, hL6, _, rfl, h⟩
          · have h := h.2 c
            refine xG_bipush (v := 16) d_RF_compare_90 rfl ?_
            exact xG_ireturn d_RF_compare_92 rfl rfl ⟨rfl, hL5, _, rfl, h⟩
        · have h := h.2 c
          refine xG_bipush (v := 21) d_RF_compare_74 rfl ?_
          exact xG_ireturn d_RF_compare_76 rfl rfl ⟨rfl, hL5, _, rfl, h⟩
      · have h := h.2 c
        refine xG_bipush (v := 17) d_RF_compare_48 rfl ?_
        exact xG_ireturn d_RF_compare_50 rfl rfl ⟨rfl, hL3, _, rfl, h⟩
    · have h := h.2 c
      refine xG_bipush (v := 32) d_RF_compare_28 rfl ?_
      exact xG_ireturn d_RF_compare_30 rfl rfl ⟨rfl, hL2, _, rfl, h⟩
  · have h := h.2 c
    refine xG_bipush (v := 34) d_RF_compare_15 rfl ?_
    exact xG_ireturn d_RF_compare_17 rfl rfl ⟨rfl, hL1, _, rfl, h⟩
theorem e_RF_compare {l : Launch} {V : xV} {Q : Int32 → xIt → xJt → xPt → Prop} {I : xIt} {J : xJt} {P : xPt}  (h : G_RF_compare l V Q 0 [(0, xq (some 250))] [] I J P) : xMet l V y_RF_compare 5 0 0 [xq (some 250)] xS0 I J P (xPi Q) := xMet_of (by decide) (Nat.le_of_ble_eq_true rfl) h

abbrev G_RF_inScope (l : Launch) (V : xV) (Q : Int32 → xIt → xJt → xPt → Prop) (pc : Nat) (lv : List (Nat × xX)) (st : List xX) (I : xIt) (J : xJt) (P : xPt) : Prop := xG l V y_RF_inScope (xR 1 0 0) (xFn V y_RF_inScope (xR 1 0 0) (xPi Q)) pc lv st xS0 I J P (0, 0)
set_option maxRecDepth 20000 in
theorem b_RF_inScope_0 {l : Launch} {V : xV} {Q : Int32 → xIt → xJt → xPt → Prop} {I : xIt} {J : xJt} {P : xPt} (hL : xL P) {v1 : Int32} {v2 : Int32} (h : ((¬ (I 250 11) = 0 → ((¬ (I 250 11) = 1 → G_RF_inScope l V Q 44 [(0, xq (some 250)), (1, xi v1), (2, xi v2), (3, xi v1)] [] I J P) ∧ ((I 250 11) = 1 → (vp_in v1 13 ∧ ((¬ (I 263 v1.toNatClampNeg) = v2 → Q 0 I J P) ∧ ((I 263 v1.toNatClampNeg) = v2 → Q 1 I J P)))))) ∧ ((I 250 11) = 0 → ((¬ v1 = v2 → Q 0 I J P) ∧ (v1 = v2 → Q 1 I J P))))) : G_RF_inScope l V Q 0 [(0, xq (some 250)), (1, xi v1), (2, xi v2)] [] I J P := by
  refine xG_aload_n d_RF_inScope_0 rfl rfl rfl ?_
  refine xG_geti d_RF_inScope_1 xf_RF_174 rfl s0_250 ?_
  refine xG_if_ne (tgt := 18) d_RF_inScope_4 (by decide) (fun c => ?_) (fun c => ?_)
  · have h := h.1 c
    refine xG_aload_n d_RF_inScope_18 rfl rfl rfl ?_
    refine xG_geti d_RF_inScope_19 xf_RF_174 rfl s0_250 ?_
    refine xG_iconst (v := 1) d_RF_inScope_22 rfl ?_
    refine xG_icmp_ne (tgt := 42) d_RF_inScope_23 (by decide) (fun c => ?_) (fun c => ?_)
    · have h := h.1 c
      refine xG_iload_n d_RF_inScope_42 rfl rfl ?_
      refine xG_istore_n (lv' := [(3, xi v1), (0, xq (some 250)), (1, xi v1), (2, xi v2)]) d_RF_inScope_43 rfl (Nat.le_of_ble_eq_true rfl) rfl ?_
      refine xG_pick [1, 2, 3, 0] rfl ?_
      exact h
    · have h := h.2 c
      refine xG_aload_n d_RF_inScope_26 rfl rfl rfl ?_
      refine xG_getq d_RF_inScope_27 xf_RF_46 rfl s0_250 ?_
      refine xG_iload_n d_RF_inScope_30 rfl rfl ?_
      refine xG_iald d_RF_inScope_31 (lp_250_33 hL) s0_263 h.1 ?_
      have h := h.2
      refine xG_iload_n d_RF_inScope_32 rfl rfl ?_
      refine xG_icmp_ne (tgt := 40) d_RF_inScope_33 (by decide) (fun c => ?_) (fun c => ?_)
      · have h := h.1 c
        refine xG_iconst (v := 0) d_RF_inScope_40 rfl ?_
        exact xG_ireturn d_RF_inScope_41 rfl rfl ⟨rfl, hL, _, rfl, h⟩
      · have h := h.2 c
        refine xG_iconst (v := 1) d_RF_inScope_36 rfl ?_
        refine xG_goto (tgt := 41) d_RF_inScope_37 (by decide) ?_
        exact xG_ireturn d_RF_inScope_41 rfl rfl ⟨rfl, hL, _, rfl, h⟩
  · have h := h.2 c
    refine xG_iload_n d_RF_inScope_7 rfl rfl ?_
    refine xG_iload_n d_RF_inScope_8 rfl rfl ?_
    refine xG_icmp_ne (tgt := 16) d_RF_inScope_9 (by decide) (fun c => ?_) (fun c => ?_)
    · have h := h.1 c
      refine xG_iconst (v := 0) d_RF_inScope_16 rfl ?_
      exact xG_ireturn d_RF_inScope_17 rfl rfl ⟨rfl, hL, _, rfl, h⟩
    · have h := h.2 c
      refine xG_iconst (v := 1) d_RF_inScope_12 rfl ?_
      refine xG_goto (tgt := 17) d_RF_inScope_13 (by decide) ?_
      exact xG_ireturn d_RF_inScope_17 rfl rfl ⟨rfl, hL, _, rfl, h⟩
set_option maxRecDepth 20000 in
theorem b_RF_inScope_44 {l : Launch} {V : xV} {Q : Int32 → xIt → xJt → xPt → Prop} {I : xIt} {J : xJt} {P : xPt} (hL : xL P) {v1 : Int32} {v2 : Int32} {v3 : Int32} (h : ((v3 = v2 → ((¬ v3 = v2 → Q 0 I J P) ∧ (v3 = v2 → Q 1 I J P))) ∧ (¬ v3 = v2 → ((v3 < 0 → ((¬ v3 = v2 → Q 0 I J P) ∧ (v3 = v2 → Q 1 I J P))) ∧ (¬ v3 < 0 → (vp_in v3 13 ∧ G_RF_inScope l V Q 44 [(0, xq (some 250)), (1, xi v1), (2, xi v2), (3, xi (I 263 v3.toNatClampNeg))] [] I J P)))))) : G_RF_inScope l V Q 44 [(0, xq (some 250)), (1, xi v1), (2, xi v2), (3, xi v3)] [] I J P := by
  refine xG_iload_n d_RF_inScope_44 rfl rfl ?_
  refine xG_iload_n d_RF_inScope_45 rfl rfl ?_
  refine xG_icmp_eq (tgt := 63) d_RF_inScope_46 (by decide) (fun c => ?_) (fun c => ?_)
  · have h := h.1 c
    refine xG_iload_n d_RF_inScope_63 rfl rfl ?_
    refine xG_iload_n d_RF_inScope_64 rfl rfl ?_
    refine xG_icmp_ne (tgt := 72) d_RF_inScope_65 (by decide) (fun c => ?_) (fun c => ?_)
    · have h := h.1 c
      refine xG_iconst (v := 0) d_RF_inScope_72 rfl ?_
      exact xG_ireturn d_RF_inScope_73 rfl rfl ⟨rfl, hL, _, rfl, h⟩
    · have h := h.2 c
      refine xG_iconst (v := 1) d_RF_inScope_68 rfl ?_
      refine xG_goto (tgt := 73) d_RF_inScope_69 (by decide) ?_
      exact xG_ireturn d_RF_inScope_73 rfl rfl ⟨rfl, hL, _, rfl, h⟩
  · have h := h.2 c
    refine xG_iload_n d_RF_inScope_49 rfl rfl ?_
    refine xG_if_lt (tgt := 63) d_RF_inScope_50 (by decide) (fun c => ?_) (fun c => ?_)
    · have h := h.1 c
      refine xG_iload_n d_RF_inScope_63 rfl rfl ?_
      refine xG_iload_n d_RF_inScope_64 rfl rfl ?_
      refine xG_icmp_ne (tgt := 72) d_RF_inScope_65 (by decide) (fun c => ?_) (fun c => ?_)
      · have h := h.1 c
        refine xG_iconst (v := 0) d_RF_inScope_72 rfl ?_
        exact xG_ireturn d_RF_inScope_73 rfl rfl ⟨rfl, hL, _, rfl, h⟩
      · have h := h.2 c
        refine xG_iconst (v := 1) d_RF_inScope_68 rfl ?_
        refine xG_goto (tgt := 73) d_RF_inScope_69 (by decide) ?_
        exact xG_ireturn d_RF_inScope_73 rfl rfl ⟨rfl, hL, _, rfl, h⟩
    · have h := h.2 c
      refine xG_aload_n d_RF_inScope_53 rfl rfl rfl ?_
      refine xG_getq d_RF_inScope_54 xf_RF_46 rfl s0_250 ?_
      refine xG_iload_n d_RF_inScope_57 rfl rfl ?_
      refine xG_iald d_RF_inScope_58 (lp_250_33 hL) s0_263 h.1 ?_
      have h := h.2
      refine xG_istore_n (lv' := [(3, xi (I 263 v3.toNatClampNeg)), (0, xq (some 250)), (1, xi v1), (2, xi v2)]) d_RF_inScope_59 rfl (Nat.le_of_ble_eq_true rfl) rfl ?_
      refine xG_goto (tgt := 44) d_RF_inScope_60 (by decide) ?_
      refine xG_pick [1, 2, 3, 0] rfl ?_
      exact h
theorem e_RF_inScope {l : Launch} {V : xV} {Q : Int32 → xIt → xJt → xPt → Prop} {I : xIt} {J : xJt} {P : xPt} {v1 : Int32} {v2 : Int32} (h : G_RF_inScope l V Q 0 [(0, xq (some 250)), (1, xi v1), (2, xi v2)] [] I J P) : xMet l V y_RF_inScope 1 0 0 [xq (some 250), xi v1, xi v2] xS0 I J P (xPi Q) := xMet_of (by decide) (Nat.le_of_ble_eq_true rfl) h

abbrev G_RF_search (l : Launch) (V : xV) (Q : Int32 → xIt → xJt → xPt → Prop) (pc : Nat) (lv : List (Nat × xX)) (st : List xX) (I : xIt) (J : xJt) (P : xPt) : Prop := xG l V y_RF_search (xR 6 0 0) (xFn V y_RF_search (xR 6 0 0) (xPi Q)) pc lv st xS0 I J P (0, 0)
set_option maxRecDepth 20000 in
theorem b_RF_search_0 {l : Launch} {V : xV} {Q : Int32 → xIt → xJt → xPt → Prop} {I : xIt} {J : xJt} {P : xPt} (hL : xL P)  (h : (∃ Q1 : Int32 → xIt → xJt → xPt → Prop, xMet l V y_RF_readName 4 0 0 [xq (some 250), xi (I 250 12), xi (I 250 13)] xS0 (xu I 250 47 0) J P (xPi Q1) ∧ ∀ (z1 : Int32) (I1 : xIt) (J1 : xJt) (P1 : xPt), Q1 z1 I1 J1 P1 → ((0 ≤ z1 → (∃ Q2 : Int32 → xIt → xJt → xPt → Prop, xMet l V y_RF_entryNamed 2 0 0 [xq (some 250), xi 0] xS0 I1 J1 P1 (xPi Q2) ∧ ∀ (z2 : Int32) (I2 : xIt) (J2 : xJt) (P2 : xPt), Q2 z2 I2 J2 P2 → ((¬ z2 = (-2) → G_RF_search l V Q 40 [(0, xq (some 250)), (1, xi z2), (2, xi 0)] [] I2 J2 P2) ∧ (z2 = (-2) → Q 32 I2 J2 P2)))) ∧ (¬ 0 ≤ z1 → Q 34 I1 J1 P1)))) : G_RF_search l V Q 0 [(0, xq (some 250))] [] I J P := by
  refine xG_aload_n d_RF_search_0 rfl rfl rfl ?_
  refine xG_iconst (v := 0) d_RF_search_1 rfl ?_
  refine xG_puti d_RF_search_2 xf_RF_277 (Or.inl rfl) rfl s0_250 rfl rfl ?_
  refine xG_aload_n d_RF_search_5 rfl rfl rfl ?_
  refine xG_aload_n d_RF_search_6 rfl rfl rfl ?_
  refine xG_geti d_RF_search_7 xf_RF_106 rfl s0_250 ?_
  refine xG_topi (x' := I 250 12) (by first | rfl | exact xu_at | simp [xu]) ?_
  refine xG_aload_n d_RF_search_10 rfl rfl rfl ?_
  refine xG_geti d_RF_search_11 xf_RF_109 rfl s0_250 ?_
  refine xG_topi (x' := I 250 13) (by first | rfl | exact xu_at | simp [xu]) ?_
  obtain ⟨Q1, hM, h⟩ := h
  refine xG_callv (as := [xi (I 250 12), xi (I 250 13)]) (rest := []) d_RF_search_14 yv_RF_readName w5_15 rfl rfl rfl s0_250 (by decide) rfl hM ⟨by decide, by decide⟩ (Nat.le_of_ble_eq_true rfl) ⟨Nat.zero_le _, Nat.zero_le _⟩ (fun r S1 I1 J1 P1 hp => ?_)
  obtain ⟨rfl, hL1, z1, rfl, hq⟩ := hp
  have h := h z1 I1 J1 P1 hq
  refine xG_if_ge (tgt := 23) d_RF_search_17 (by decide) (fun c => ?_) (fun c => ?_)
  · have h := h.1 c
    refine xG_aload_n d_RF_search_23 rfl rfl rfl ?_
    refine xG_iconst (v := 0) d_RF_search_24 rfl ?_
    obtain ⟨Q2, hM, h⟩ := h
    refine xG_callv (as := [xi 0]) (rest := []) d_RF_search_25 yv_RF_entryNamed w5_42 rfl rfl rfl s0_250 (by decide) rfl hM ⟨by decide, by decide⟩ (Nat.le_of_ble_eq_true rfl) ⟨Nat.zero_le _, Nat.zero_le _⟩ (fun r S2 I2 J2 P2 hp => ?_)
    obtain ⟨rfl, hL2, z2, rfl, hq⟩ := hp
    have h := h z2 I2 J2 P2 hq
    refine xG_istore_n (lv' := [(1, xi z2), (0, xq (some 250))]) d_RF_search_28 rfl (Nat.le_of_ble_eq_true rfl) rfl ?_
    refine xG_iload_n d_RF_search_29 rfl rfl ?_
    refine xG_bipush (v := (-2)) d_RF_search_30 rfl ?_
    refine xG_icmp_ne (tgt := 38) d_RF_search_32 (by decide) (fun c => ?_) (fun c => ?_)
    · have h := h.1 c
      refine xG_iconst (v := 0) d_RF_search_38 rfl ?_
      refine xG_istore_n (lv' := [(2, xi 0), (1, xi z2), (0, xq (some 250))]) d_RF_search_39 rfl (Nat.le_of_ble_eq_true rfl) rfl ?_
      refine xG_pick [2, 1, 0] rfl ?_
      exact h
    · have h := h.2 c
      refine xG_bipush (v := 32) d_RF_search_35 rfl ?_
      exact xG_ireturn d_RF_search_37 rfl rfl ⟨rfl, hL2, _, rfl, h⟩
  · have h := h.2 c
    refine xG_bipush (v := 34) d_RF_search_20 rfl ?_
    exact xG_ireturn d_RF_search_22 rfl rfl ⟨rfl, hL1, _, rfl, h⟩
set_option maxRecDepth 20000 in
theorem b_RF_search_40 {l : Launch} {V : xV} {Q : Int32 → xIt → xJt → xPt → Prop} {I : xIt} {J : xJt} {P : xPt} (hL : xL P) {v1 : Int32} {v2 : Int32} (h : (((I 250 27) ≤ v2 → Q 0 I J P) ∧ (¬ (I 250 27) ≤ v2 → (∃ Q1 : Int32 → xIt → xJt → xPt → Prop, xMet l V y_RF_inScope 1 0 0 [xq (some 250), xi v2, xi v1] xS0 I J P (xPi Q1) ∧ ∀ (z1 : Int32) (I1 : xIt) (J1 : xJt) (P1 : xPt), Q1 z1 I1 J1 P1 → ((z1 = 0 → G_RF_search l V Q 40 [(0, xq (some 250)), (1, xi v1), (2, xi (v2 + 1))] [] I1 J1 P1) ∧ (¬ z1 = 0 → (∃ Q2 : Int32 → xIt → xJt → xPt → Prop, xMet l V y_RF_matches 5 0 0 [xq (some 250), xi v2] xS0 I1 J1 P1 (xPi Q2) ∧ ∀ (z2 : Int32) (I2 : xIt) (J2 : xJt) (P2 : xPt), Q2 z2 I2 J2 P2 → ((z2 = 0 → G_RF_search l V Q 40 [(0, xq (some 250)), (1, xi v1), (2, xi (v2 + 1))] [] I2 J2 P2) ∧ (¬ z2 = 0 → (((I2 250 10) = 0 → (∃ Q3 : xIt → xJt → xPt → Prop, xMet l V y_RF_writeEntry 4 0 0 [xq (some 250), xi v2] xS0 (xu I2 250 47 ((I2 250 47) + 1)) J2 P2 (xPv Q3) ∧ ∀ (I3 : xIt) (J3 : xJt) (P3 : xPt), Q3 I3 J3 P3 → G_RF_search l V Q 40 [(0, xq (some 250)), (1, xi v1), (2, xi (v2 + 1))] [] I3 J3 P3)) ∧ (¬ (I2 250 10) = 0 → ((¬ (I2 250 47) = (I2 250 10) → (∃ Q4 : xIt → xJt → xPt → Prop, xMet l V y_RF_writeEntry 4 0 0 [xq (some 250), xi v2] xS0 (xu I2 250 47 ((I2 250 47) + 1)) J2 P2 (xPv Q4) ∧ ∀ (I4 : xIt) (J4 : xJt) (P4 : xPt), Q4 I4 J4 P4 → G_RF_search l V Q 40 [(0, xq (some 250)), (1, xi v1), (2, xi (v2 + 1))] [] I4 J4 P4)) ∧ ((I2 250 47) = (I2 250 10) → Q 4 I2 J2 P2))))))))))))) : G_RF_search l V Q 40 [(0, xq (some 250)), (1, xi v1), (2, xi v2)] [] I J P := by
  refine xG_iload_n d_RF_search_40 rfl rfl ?_
  refine xG_aload_n d_RF_search_41 rfl rfl rfl ?_
  refine xG_geti d_RF_search_42 xf_RF_211 rfl s0_250 ?_
  refine xG_icmp_ge (tgt := 106) d_RF_search_45 (by decide) (fun c => ?_) (fun c => ?_)
  · have h := h.1 c
    refine xG_iconst (v := 0) d_RF_search_106 rfl ?_
    exact xG_ireturn d_RF_search_107 rfl rfl ⟨rfl, hL, _, rfl, h⟩
  · have h := h.2 c
    refine xG_aload_n d_RF_search_48 rfl rfl rfl ?_
    refine xG_iload_n d_RF_search_49 rfl rfl ?_
    refine xG_iload_n d_RF_search_50 rfl rfl ?_
    obtain ⟨Q1, hM, h⟩ := h
    refine xG_callv (as := [xi v2, xi v1]) (rest := []) d_RF_search_51 yv_RF_inScope w5_157 rfl rfl rfl s0_250 (by decide) rfl hM ⟨by decide, by decide⟩ (Nat.le_of_ble_eq_true rfl) ⟨Nat.zero_le _, Nat.zero_le _⟩ (fun r S1 I1 J1 P1 hp => ?_)
    obtain ⟨rfl, hL1, z1, rfl, hq⟩ := hp
    have h := h z1 I1 J1 P1 hq
    refine xG_if_eq (tgt := 100) d_RF_search_54 (by decide) (fun c => ?_) (fun c => ?_)
    · have h := h.1 c
      refine xG_iinc (v := v2 + 1) (lv' := [(2, xi (v2 + 1)), (0, xq (some 250)), (1, xi v1)]) d_RF_search_100 rfl rfl (Nat.le_of_ble_eq_true rfl) rfl ?_
      refine xG_goto (tgt := 40) d_RF_search_103 (by decide) ?_
      refine xG_pick [1, 2, 0] rfl ?_
      exact h
    · have h := h.2 c
      refine xG_aload_n d_RF_search_57 rfl rfl rfl ?_
      refine xG_iload_n d_RF_search_58 rfl rfl ?_
      obtain ⟨Q2, hM, h⟩ := h
      refine xG_callv (as := [xi v2]) (rest := []) d_RF_search_59 yv_RF_matches w5_161 rfl rfl rfl s0_250 (by decide) rfl hM ⟨by decide, by decide⟩ (Nat.le_of_ble_eq_true rfl) ⟨Nat.zero_le _, Nat.zero_le _⟩ (fun r S2 I2 J2 P2 hp => ?_)
      obtain ⟨rfl, hL2, z2, rfl, hq⟩ := hp
      have h := h z2 I2 J2 P2 hq
      refine xG_if_eq (tgt := 100) d_RF_search_62 (by decide) (fun c => ?_) (fun c => ?_)
      · have h := h.1 c
        refine xG_iinc (v := v2 + 1) (lv' := [(2, xi (v2 + 1)), (0, xq (some 250)), (1, xi v1)]) d_RF_search_100 rfl rfl (Nat.le_of_ble_eq_true rfl) rfl ?_
        refine xG_goto (tgt := 40) d_RF_search_103 (by decide) ?_
        refine xG_pick [1, 2, 0] rfl ?_
        exact h
      · have h := h.2 c
        refine xG_aload_n d_RF_search_65 rfl rfl rfl ?_
        refine xG_geti d_RF_search_66 xf_RF_155 rfl s0_250 ?_
        refine xG_if_eq (tgt := 85) d_RF_search_69 (by decide) (fun c => ?_) (fun c => ?_)
        · have h := h.1 c
          refine xG_aload_n d_RF_search_85 rfl rfl rfl ?_
          refine xG_dup d_RF_search_86 rfl ?_
          refine xG_geti d_RF_search_87 xf_RF_277 rfl s0_250 ?_
          refine xG_iconst (v := 1) d_RF_search_90 rfl ?_
          refine xG_iadd d_RF_search_91 ?_
          refine xG_puti d_RF_search_92 xf_RF_277 (Or.inl rfl) rfl s0_250 rfl rfl ?_
          refine xG_aload_n d_RF_search_95 rfl rfl rfl ?_
          refine xG_iload_n d_RF_search_96 rfl rfl ?_
          obtain ⟨Q3, hM, h⟩ := h
          refine xG_callv (as := [xi v2]) (rest := []) d_RF_search_97 yv_RF_writeEntry w5_177 rfl rfl rfl s0_250 (by decide) rfl hM ⟨by decide, by decide⟩ (Nat.le_of_ble_eq_true rfl) ⟨Nat.zero_le _, Nat.zero_le _⟩ (fun r S3 I3 J3 P3 hp => ?_)
          obtain ⟨rfl, hL3, rfl, hq⟩ := hp
          have h := h I3 J3 P3 hq
          refine xG_iinc (v := v2 + 1) (lv' := [(2, xi (v2 + 1)), (0, xq (some 250)), (1, xi v1)]) d_RF_search_100 rfl rfl (Nat.le_of_ble_eq_true rfl) rfl ?_
          refine xG_goto (tgt := 40) d_RF_search_103 (by decide) ?_
          refine xG_pick [1, 2, 0] rfl ?_
          exact h
        · have h := h.2 c
          refine xG_aload_n d_RF_search_72 rfl rfl rfl ?_
          refine xG_geti d_RF_search_73 xf_RF_277 rfl s0_250 ?_
          refine xG_aload_n d_RF_search_76 rfl rfl rfl ?_
          refine xG_geti d_RF_search_77 xf_RF_155 rfl s0_250 ?_
          refine xG_icmp_ne (tgt := 85) d_RF_search_80 (by decide) (fun c => ?_) (fun c => ?_)
          · have h := h.1 c
            refine xG_aload_n d_RF_search_85 rfl rfl rfl ?_
            refine xG_dup d_RF_search_86 rfl ?_
            refine xG_geti d_RF_search_87 xf_RF_277 rfl s0_250 ?_
            refine xG_iconst (v := 1) d_RF_search_90 rfl ?_
            refine xG_iadd d_RF_search_91 ?_
            refine xG_puti d_RF_search_92 xf_RF_277 (Or.inl rfl) rfl s0_250 rfl rfl ?_
            refine xG_aload_n d_RF_search_95 rfl rfl rfl ?_
            refine xG_iload_n d_RF_search_96 rfl rfl ?_
            obtain ⟨Q4, hM, h⟩ := h
            refine xG_callv (as := [xi v2]) (rest := []) d_RF_search_97 yv_RF_writeEntry w5_177 rfl rfl rfl s0_250 (by decide) rfl hM ⟨by decide, by decide⟩ (Nat.le_of_ble_eq_true rfl) ⟨Nat.zero_le _, Nat.zero_le _⟩ (fun r S4 I4 J4 P4 hp => ?_)
            obtain ⟨rfl, hL4, rfl, hq⟩ := hp
            have h := h I4 J4 P4 hq
            refine xG_iinc (v := v2 + 1) (lv' := [(2, xi (v2 + 1)), (0, xq (some 250)), (1, xi v1)]) d_RF_search_100 rfl rfl (Nat.le_of_ble_eq_true rfl) rfl ?_
            refine xG_goto (tgt := 40) d_RF_search_103 (by decide) ?_
            refine xG_pick [1, 2, 0] rfl ?_
            exact h
          · have h := h.2 c
            refine xG_iconst (v := 4) d_RF_search_83 rfl ?_
            exact xG_ireturn d_RF_search_84 rfl rfl ⟨rfl, hL2, _, rfl, h⟩
theorem e_RF_search {l : Launch} {V : xV} {Q : Int32 → xIt → xJt → xPt → Prop} {I : xIt} {J : xJt} {P : xPt}  (h : G_RF_search l V Q 0 [(0, xq (some 250))] [] I J P) : xMet l V y_RF_search 6 0 0 [xq (some 250)] xS0 I J P (xPi Q) := xMet_of (by decide) (Nat.le_of_ble_eq_true rfl) h

abbrev G_RF_matches (l : Launch) (V : xV) (Q : Int32 → xIt → xJt → xPt → Prop) (pc : Nat) (lv : List (Nat × xX)) (st : List xX) (I : xIt) (J : xJt) (P : xPt) : Prop := xG l V y_RF_matches (xR 5 0 0) (xFn V y_RF_matches (xR 5 0 0) (xPi Q)) pc lv st xS0 I J P (0, 0)
set_option maxRecDepth 20000 in
theorem b_RF_matches_0 {l : Launch} {V : xV} {Q : Int32 → xIt → xJt → xPt → Prop} {I : xIt} {J : xJt} {P : xPt} (hL : xL P) {v1 : Int32} (h : G_RF_matches l V Q 33 [(0, xq (some 250)), (1, xi v1), (2, xi 0), (3, xi (I 250 16))] [] (xu (xu (xu I 267 0 (I 250 17)) 268 0 161) 270 0 0) J P) : G_RF_matches l V Q 0 [(0, xq (some 250)), (1, xi v1)] [] I J P := by
  refine xG_iconst (v := 0) d_RF_matches_0 rfl ?_
  refine xG_istore_n (lv' := [(2, xi 0), (0, xq (some 250)), (1, xi v1)]) d_RF_matches_1 rfl (Nat.le_of_ble_eq_true rfl) rfl ?_
  refine xG_aload_n d_RF_matches_2 rfl rfl rfl ?_
  refine xG_geti d_RF_matches_3 xf_RF_118 rfl s0_250 ?_
  refine xG_istore_n (lv' := [(3, xi (I 250 16)), (2, xi 0), (0, xq (some 250)), (1, xi v1)]) d_RF_matches_6 rfl (Nat.le_of_ble_eq_true rfl) rfl ?_
  refine xG_aload_n d_RF_matches_7 rfl rfl rfl ?_
  refine xG_getq d_RF_matches_8 xf_RF_62 rfl s0_250 ?_
  refine xG_iconst (v := 0) d_RF_matches_11 rfl ?_
  refine xG_aload_n d_RF_matches_12 rfl rfl rfl ?_
  refine xG_geti d_RF_matches_13 xf_RF_121 rfl s0_250 ?_
  refine xG_iast d_RF_matches_16 (lp_250_38 hL) s0_267 (x_vp (by decide)) ?_
  refine xG_hI (I' := (xu I 267 0 (I 250 17))) rfl ?_
  refine xG_aload_n d_RF_matches_17 rfl rfl rfl ?_
  refine xG_getq d_RF_matches_18 xf_RF_65 rfl s0_250 ?_
  refine xG_iconst (v := 0) d_RF_matches_21 rfl ?_
  refine xG_sipush (v := 161) d_RF_matches_22 rfl ?_
  refine xG_iast d_RF_matches_25 (lp_250_39 hL) s0_268 (x_vp (by decide)) ?_
  refine xG_hI (I' := (xu (xu I 267 0 (I 250 17)) 268 0 161)) rfl ?_
  refine xG_aload_n d_RF_matches_26 rfl rfl rfl ?_
  refine xG_getq d_RF_matches_27 xf_RF_71 rfl s0_250 ?_
  refine xG_iconst (v := 0) d_RF_matches_30 rfl ?_
  refine xG_iconst (v := 0) d_RF_matches_31 rfl ?_
  refine xG_iast d_RF_matches_32 (lp_250_41 hL) s0_270 (x_vp (by decide)) ?_
  refine xG_hI (I' := (xu (xu (xu I 267 0 (I 250 17)) 268 0 161) 270 0 0)) rfl ?_
  refine xG_pick [2, 3, 1, 0] rfl ?_
  exact h
set_option maxRecDepth 20000 in
theorem b_RF_matches_33 {l : Launch} {V : xV} {Q : Int32 → xIt → xJt → xPt → Prop} {I : xIt} {J : xJt} {P : xPt} (hL : xL P) {v1 : Int32} {v2 : Int32} {v3 : Int32} (h : ((0 < v2 → G_RF_matches l V Q 47 [(0, xq (some 250)), (1, xi v1), (2, xi v2), (3, xi v3)] [] I J P) ∧ (¬ 0 < v2 → (((I 267 0) ≤ v3 → ((¬ (I 270 0) = 2 → Q 0 I J P) ∧ ((I 270 0) = 2 → Q 1 I J P))) ∧ (¬ (I 267 0) ≤ v3 → G_RF_matches l V Q 47 [(0, xq (some 250)), (1, xi v1), (2, xi v2), (3, xi v3)] [] I J P))))) : G_RF_matches l V Q 33 [(0, xq (some 250)), (1, xi v1), (2, xi v2), (3, xi v3)] [] I J P := by
  refine xG_iload_n d_RF_matches_33 rfl rfl ?_
  refine xG_if_gt (tgt := 47) d_RF_matches_34 (by decide) (fun c => ?_) (fun c => ?_)
  · have h := h.1 c
    exact h
  · have h := h.2 c
    refine xG_iload_n d_RF_matches_37 rfl rfl ?_
    refine xG_aload_n d_RF_matches_38 rfl rfl rfl ?_
    refine xG_getq d_RF_matches_39 xf_RF_62 rfl s0_250 ?_
    refine xG_iconst (v := 0) d_RF_matches_42 rfl ?_
    refine xG_iald d_RF_matches_43 (lp_250_38 hL) s0_267 (x_vp (by decide)) ?_
    refine xG_topi (x' := I 267 0) (by first | rfl | exact xu_at | simp [xu]) ?_
    refine xG_icmp_ge (tgt := 221) d_RF_matches_44 (by decide) (fun c => ?_) (fun c => ?_)
    · have h := h.1 c
      refine xG_aload_n d_RF_matches_221 rfl rfl rfl ?_
      refine xG_getq d_RF_matches_222 xf_RF_71 rfl s0_250 ?_
      refine xG_iconst (v := 0) d_RF_matches_225 rfl ?_
      refine xG_iald d_RF_matches_226 (lp_250_41 hL) s0_270 (x_vp (by decide)) ?_
      refine xG_topi (x' := I 270 0) (by first | rfl | exact xu_at | simp [xu]) ?_
      refine xG_iconst (v := 2) d_RF_matches_227 rfl ?_
      refine xG_icmp_ne (tgt := 235) d_RF_matches_228 (by decide) (fun c => ?_) (fun c => ?_)
      · have h := h.1 c
        refine xG_iconst (v := 0) d_RF_matches_235 rfl ?_
        exact xG_ireturn d_RF_matches_236 rfl rfl ⟨rfl, hL, _, rfl, h⟩
      · have h := h.2 c
        refine xG_iconst (v := 1) d_RF_matches_231 rfl ?_
        refine xG_goto (tgt := 236) d_RF_matches_232 (by decide) ?_
        exact xG_ireturn d_RF_matches_236 rfl rfl ⟨rfl, hL, _, rfl, h⟩
    · have h := h.2 c
      exact h
set_option maxRecDepth 20000 in
theorem b_RF_matches_47 {l : Launch} {V : xV} {Q : Int32 → xIt → xJt → xPt → Prop} {I : xIt} {J : xJt} {P : xPt} (hL : xL P) {v1 : Int32} {v2 : Int32} {v3 : Int32} (h : (vp_in v2 8 ∧ ((¬ v3 = (I 267 v2.toNatClampNeg) → (vp_in v2 8 ∧ (∃ Q1 : Int32 → xIt → xJt → xPt → Prop, xMet l V y_RF_tlv 1 0 0 [xq (some 250), xi v3, xi (I 267 v2.toNatClampNeg)] xS0 I J P (xPi Q1) ∧ ∀ (z1 : Int32) (I1 : xIt) (J1 : xJt) (P1 : xPt), Q1 z1 I1 J1 P1 → ((z1 = 0 → G_RF_matches l V Q 191 [(0, xq (some 250)), (1, xi v1), (2, xi v2), (3, xi v3), (4, xi z1)] [] I1 J1 P1) ∧ (¬ z1 = 0 → (((I1 250 3) < 160 → G_RF_matches l V Q 191 [(0, xq (some 250)), (1, xi v1), (2, xi v2), (3, xi v3), (4, xi z1)] [] I1 J1 P1) ∧ (¬ (I1 250 3) < 160 → ((162 < (I1 250 3) → G_RF_matches l V Q 191 [(0, xq (some 250)), (1, xi v1), (2, xi v2), (3, xi v3), (4, xi z1)] [] I1 J1 P1) ∧ (¬ 162 < (I1 250 3) → (vp_in (v2 + 1) 8 ∧ (vp_in (v2 + 1) 8 ∧ ((¬ (I1 250 3) = 160 → (vp_in (v2 + 1) 8 ∧ G_RF_matches l V Q 33 [(0, xq (some 250)), (1, xi v1), (2, xi (v2 + 1)), (3, xi (I1 250 4))] [] (xu (xu (xu I1 267 ((v2 + 1).toNatClampNeg) (I1 250 5)) 268 ((v2 + 1).toNatClampNeg) (I1 250 3)) 270 ((v2 + 1).toNatClampNeg) 0) J1 P1)) ∧ ((I1 250 3) = 160 → (vp_in (v2 + 1) 8 ∧ G_RF_matches l V Q 33 [(0, xq (some 250)), (1, xi v1), (2, xi (v2 + 1)), (3, xi (I1 250 4))] [] (xu (xu (xu I1 267 ((v2 + 1).toNatClampNeg) (I1 250 5)) 268 ((v2 + 1).toNatClampNeg) (I1 250 3)) 270 ((v2 + 1).toNatClampNeg) 2) J1 P1)))))))))))))) ∧ (v3 = (I 267 v2.toNatClampNeg) → (vp_in v2 8 ∧ ((¬ (I 268 v2.toNatClampNeg) = 162 → (vp_in v2 8 ∧ (∃ Q2 : xIt → xJt → xPt → Prop, xMet l V y_RF_into 1 0 0 [xq (some 250), xi (v2 + (-1)), xi (I 270 v2.toNatClampNeg)] xS0 I J P (xPv Q2) ∧ ∀ (I2 : xIt) (J2 : xJt) (P2 : xPt), Q2 I2 J2 P2 → G_RF_matches l V Q 33 [(0, xq (some 250)), (1, xi v1), (2, xi (v2 + (-1))), (3, xi v3)] [] I2 J2 P2))) ∧ ((I 268 v2.toNatClampNeg) = 162 → (vp_in v2 8 ∧ (∃ Q3 : xIt → xJt → xPt → Prop, xMet l V y_RF_into 1 0 0 [xq (some 250), xi (v2 + (-1)), xi (2 - (I 270 v2.toNatClampNeg))] xS0 I J P (xPv Q3) ∧ ∀ (I3 : xIt) (J3 : xJt) (P3 : xPt), Q3 I3 J3 P3 → G_RF_matches l V Q 33 [(0, xq (some 250)), (1, xi v1), (2, xi (v2 + (-1))), (3, xi v3)] [] I3 J3 P3))))))))) : G_RF_matches l V Q 47 [(0, xq (some 250)), (1, xi v1), (2, xi v2), (3, xi v3)] [] I J P := by
  refine xG_iload_n d_RF_matches_47 rfl rfl ?_
  refine xG_aload_n d_RF_matches_48 rfl rfl rfl ?_
  refine xG_getq d_RF_matches_49 xf_RF_62 rfl s0_250 ?_
  refine xG_iload_n d_RF_matches_52 rfl rfl ?_
  refine xG_iald d_RF_matches_53 (lp_250_38 hL) s0_267 h.1 ?_
  have h := h.2
  refine xG_icmp_ne (tgt := 101) d_RF_matches_54 (by decide) (fun c => ?_) (fun c => ?_)
  · have h := h.1 c
    refine xG_aload_n d_RF_matches_101 rfl rfl rfl ?_
    refine xG_iload_n d_RF_matches_102 rfl rfl ?_
    refine xG_aload_n d_RF_matches_103 rfl rfl rfl ?_
    refine xG_getq d_RF_matches_104 xf_RF_62 rfl s0_250 ?_
    refine xG_iload_n d_RF_matches_107 rfl rfl ?_
    refine xG_iald d_RF_matches_108 (lp_250_38 hL) s0_267 h.1 ?_
    have h := h.2
    obtain ⟨Q1, hM, h⟩ := h
    refine xG_callv (as := [xi v3, xi (I 267 v2.toNatClampNeg)]) (rest := []) d_RF_matches_109 yv_RF_tlv w4_195 rfl rfl rfl s0_250 (by decide) rfl hM ⟨by decide, by decide⟩ (Nat.le_of_ble_eq_true rfl) ⟨Nat.zero_le _, Nat.zero_le _⟩ (fun r S1 I1 J1 P1 hp => ?_)
    obtain ⟨rfl, hL1, z1, rfl, hq⟩ := hp
    have h := h z1 I1 J1 P1 hq
    refine xG_istore (lv' := [(4, xi z1), (0, xq (some 250)), (1, xi v1), (2, xi v2), (3, xi v3)]) d_RF_matches_112 (Nat.le_of_ble_eq_true rfl) rfl ?_
    refine xG_iload d_RF_matches_114 rfl ?_
    refine xG_if_eq (tgt := 191) d_RF_matches_116 (by decide) (fun c => ?_) (fun c => ?_)
    · have h := h.1 c
      refine xG_pick [1, 2, 3, 4, 0] rfl ?_
      exact h
    · have h := h.2 c
      refine xG_aload_n d_RF_matches_119 rfl rfl rfl ?_
      refine xG_geti d_RF_matches_120 xf_RF_83 rfl s0_250 ?_
      refine xG_sipush (v := 160) d_RF_matches_123 rfl ?_
      refine xG_icmp_lt (tgt := 191) d_RF_matches_126 (by decide) (fun c => ?_) (fun c => ?_)
      · have h := h.1 c
        refine xG_pick [1, 2, 3, 4, 0] rfl ?_
        exact h
      · have h := h.2 c
        refine xG_aload_n d_RF_matches_129 rfl rfl rfl ?_
        refine xG_geti d_RF_matches_130 xf_RF_83 rfl s0_250 ?_
        refine xG_sipush (v := 162) d_RF_matches_133 rfl ?_
        refine xG_icmp_gt (tgt := 191) d_RF_matches_136 (by decide) (fun c => ?_) (fun c => ?_)
        · have h := h.1 c
          refine xG_pick [1, 2, 3, 4, 0] rfl ?_
          exact h
        · have h := h.2 c
          refine xG_iinc (v := v2 + 1) (lv' := [(2, xi (v2 + 1)), (4, xi z1), (0, xq (some 250)), (1, xi v1), (3, xi v3)]) d_RF_matches_139 rfl rfl (Nat.le_of_ble_eq_true rfl) rfl ?_
          refine xG_aload_n d_RF_matches_142 rfl rfl rfl ?_
          refine xG_getq d_RF_matches_143 xf_RF_62 rfl s0_250 ?_
          refine xG_iload_n d_RF_matches_146 rfl rfl ?_
          refine xG_aload_n d_RF_matches_147 rfl rfl rfl ?_
          refine xG_geti d_RF_matches_148 xf_RF_89 rfl s0_250 ?_
          refine xG_iast d_RF_matches_151 (lp_250_38 hL1) s0_267 h.1 ?_
          have h := h.2
          refine xG_aload_n d_RF_matches_152 rfl rfl rfl ?_
          refine xG_getq d_RF_matches_153 xf_RF_65 rfl s0_250 ?_
          refine xG_iload_n d_RF_matches_156 rfl rfl ?_
          refine xG_aload_n d_RF_matches_157 rfl rfl rfl ?_
          refine xG_geti d_RF_matches_158 xf_RF_83 rfl s0_250 ?_
          refine xG_topi (x' := I1 250 3) (by first | rfl | exact xu_at | simp [xu]) ?_
          refine xG_iast d_RF_matches_161 (lp_250_39 hL1) s0_268 h.1 ?_
          have h := h.2
          refine xG_aload_n d_RF_matches_162 rfl rfl rfl ?_
          refine xG_getq d_RF_matches_163 xf_RF_71 rfl s0_250 ?_
          refine xG_iload_n d_RF_matches_166 rfl rfl ?_
          refine xG_aload_n d_RF_matches_167 rfl rfl rfl ?_
          refine xG_geti d_RF_matches_168 xf_RF_83 rfl s0_250 ?_
          refine xG_topi (x' := I1 250 3) (by first | rfl | exact xu_at | simp [xu]) ?_
          refine xG_sipush (v := 160) d_RF_matches_171 rfl ?_
          refine xG_icmp_ne (tgt := 181) d_RF_matches_174 (by decide) (fun c => ?_) (fun c => ?_)
          · have h := h.1 c
            refine xG_iconst (v := 0) d_RF_matches_181 rfl ?_
            refine xG_iast d_RF_matches_182 (lp_250_41 hL1) s0_270 h.1 ?_
            have h := h.2
            refine xG_aload_n d_RF_matches_183 rfl rfl rfl ?_
            refine xG_geti d_RF_matches_184 xf_RF_86 rfl s0_250 ?_
            refine xG_topi (x' := I1 250 4) (by first | rfl | exact xu_at | simp [xu]) ?_
            refine xG_istore_n (lv' := [(3, xi (I1 250 4)), (2, xi (v2 + 1)), (4, xi z1), (0, xq (some 250)), (1, xi v1)]) d_RF_matches_187 rfl (Nat.le_of_ble_eq_true rfl) rfl ?_
            refine xG_goto (tgt := 218) d_RF_matches_188 (by decide) ?_
            refine xG_goto (tgt := 33) d_RF_matches_218 (by decide) ?_
            refine xG_pick [3, 4, 1, 0] rfl ?_
            exact h
          · have h := h.2 c
            refine xG_iconst (v := 2) d_RF_matches_177 rfl ?_
            refine xG_goto (tgt := 182) d_RF_matches_178 (by decide) ?_
            refine xG_iast d_RF_matches_182 (lp_250_41 hL1) s0_270 h.1 ?_
            have h := h.2
            refine xG_aload_n d_RF_matches_183 rfl rfl rfl ?_
            refine xG_geti d_RF_matches_184 xf_RF_86 rfl s0_250 ?_
            refine xG_topi (x' := I1 250 4) (by first | rfl | exact xu_at | simp [xu]) ?_
            refine xG_istore_n (lv' := [(3, xi (I1 250 4)), (2, xi (v2 + 1)), (4, xi z1), (0, xq (some 250)), (1, xi v1)]) d_RF_matches_187 rfl (Nat.le_of_ble_eq_true rfl) rfl ?_
            refine xG_goto (tgt := 218) d_RF_matches_188 (by decide) ?_
            refine xG_goto (tgt := 33) d_RF_matches_218 (by decide) ?_
            refine xG_pick [3, 4, 1, 0] rfl ?_
            exact h
  · have h := h.2 c
    refine xG_aload_n d_RF_matches_57 rfl rfl rfl ?_
    refine xG_getq d_RF_matches_58 xf_RF_65 rfl s0_250 ?_
    refine xG_iload_n d_RF_matches_61 rfl rfl ?_
    refine xG_iald d_RF_matches_62 (lp_250_39 hL) s0_268 h.1 ?_
    have h := h.2
    refine xG_sipush (v := 162) d_RF_matches_63 rfl ?_
    refine xG_icmp_ne (tgt := 80) d_RF_matches_66 (by decide) (fun c => ?_) (fun c => ?_)
    · have h := h.1 c
      refine xG_aload_n d_RF_matches_80 rfl rfl rfl ?_
      refine xG_getq d_RF_matches_81 xf_RF_71 rfl s0_250 ?_
      refine xG_iload_n d_RF_matches_84 rfl rfl ?_
      refine xG_iald d_RF_matches_85 (lp_250_41 hL) s0_270 h.1 ?_
      have h := h.2
      refine xG_istore (lv' := [(4, xi (I 270 v2.toNatClampNeg)), (0, xq (some 250)), (1, xi v1), (2, xi v2), (3, xi v3)]) d_RF_matches_86 (Nat.le_of_ble_eq_true rfl) rfl ?_
      refine xG_iinc (v := v2 + (-1)) (lv' := [(2, xi (v2 + (-1))), (4, xi (I 270 v2.toNatClampNeg)), (0, xq (some 250)), (1, xi v1), (3, xi v3)]) d_RF_matches_88 rfl rfl (Nat.le_of_ble_eq_true rfl) rfl ?_
      refine xG_aload_n d_RF_matches_91 rfl rfl rfl ?_
      refine xG_iload_n d_RF_matches_92 rfl rfl ?_
      refine xG_iload d_RF_matches_93 rfl ?_
      obtain ⟨Q2, hM, h⟩ := h
      refine xG_callv (as := [xi (v2 + (-1)), xi (I 270 v2.toNatClampNeg)]) (rest := []) d_RF_matches_95 yv_RF_into w5_165 rfl rfl rfl s0_250 (by decide) rfl hM ⟨by decide, by decide⟩ (Nat.le_of_ble_eq_true rfl) ⟨Nat.zero_le _, Nat.zero_le _⟩ (fun r S2 I2 J2 P2 hp => ?_)
      obtain ⟨rfl, hL2, rfl, hq⟩ := hp
      have h := h I2 J2 P2 hq
      refine xG_goto (tgt := 33) d_RF_matches_98 (by decide) ?_
      refine xG_pick [2, 3, 0, 4] rfl ?_
      exact h
    · have h := h.2 c
      refine xG_iconst (v := 2) d_RF_matches_69 rfl ?_
      refine xG_aload_n d_RF_matches_70 rfl rfl rfl ?_
      refine xG_getq d_RF_matches_71 xf_RF_71 rfl s0_250 ?_
      refine xG_iload_n d_RF_matches_74 rfl rfl ?_
      refine xG_iald d_RF_matches_75 (lp_250_41 hL) s0_270 h.1 ?_
      have h := h.2
      refine xG_isub d_RF_matches_76 ?_
      refine xG_goto (tgt := 86) d_RF_matches_77 (by decide) ?_
      refine xG_istore (lv' := [(4, xi (2 - (I 270 v2.toNatClampNeg))), (0, xq (some 250)), (1, xi v1), (2, xi v2), (3, xi v3)]) d_RF_matches_86 (Nat.le_of_ble_eq_true rfl) rfl ?_
      refine xG_iinc (v := v2 + (-1)) (lv' := [(2, xi (v2 + (-1))), (4, xi (2 - (I 270 v2.toNatClampNeg))), (0, xq (some 250)), (1, xi v1), (3, xi v3)]) d_RF_matches_88 rfl rfl (Nat.le_of_ble_eq_true rfl) rfl ?_
      refine xG_aload_n d_RF_matches_91 rfl rfl rfl ?_
      refine xG_iload_n d_RF_matches_92 rfl rfl ?_
      refine xG_iload d_RF_matches_93 rfl ?_
      obtain ⟨Q3, hM, h⟩ := h
      refine xG_callv (as := [xi (v2 + (-1)), xi (2 - (I 270 v2.toNatClampNeg))]) (rest := []) d_RF_matches_95 yv_RF_into w5_165 rfl rfl rfl s0_250 (by decide) rfl hM ⟨by decide, by decide⟩ (Nat.le_of_ble_eq_true rfl) ⟨Nat.zero_le _, Nat.zero_le _⟩ (fun r S3 I3 J3 P3 hp => ?_)
      obtain ⟨rfl, hL3, rfl, hq⟩ := hp
      have h := h I3 J3 P3 hq
      refine xG_goto (tgt := 33) d_RF_matches_98 (by decide) ?_
      refine xG_pick [2, 3, 0, 4] rfl ?_
      exact h
set_option maxRecDepth 20000 in
theorem b_RF_matches_191 {l : Launch} {V : xV} {Q : Int32 → xIt → xJt → xPt → Prop} {I : xIt} {J : xJt} {P : xPt} (hL : xL P) {v1 : Int32} {v2 : Int32} {v3 : Int32} {v4 : Int32} (h : (∃ Q1 : Int32 → xIt → xJt → xPt → Prop, xMet l V y_RF_leafValue 4 0 0 [xq (some 250), xi v1, xi (I 250 3), xi (I 250 4), xi (I 250 5)] xS0 I J P (xPi Q1) ∧ ∀ (z1 : Int32) (I1 : xIt) (J1 : xJt) (P1 : xPt), Q1 z1 I1 J1 P1 → (∃ Q2 : xIt → xJt → xPt → Prop, xMet l V y_RF_into 1 0 0 [xq (some 250), xi v2, xi z1] xS0 I1 J1 P1 (xPv Q2) ∧ ∀ (I2 : xIt) (J2 : xJt) (P2 : xPt), Q2 I2 J2 P2 → G_RF_matches l V Q 33 [(0, xq (some 250)), (1, xi v1), (2, xi v2), (3, xi (I 250 5))] [] I2 J2 P2))) : G_RF_matches l V Q 191 [(0, xq (some 250)), (1, xi v1), (2, xi v2), (3, xi v3), (4, xi v4)] [] I J P := by
  refine xG_aload_n d_RF_matches_191 rfl rfl rfl ?_
  refine xG_geti d_RF_matches_192 xf_RF_89 rfl s0_250 ?_
  refine xG_istore_n (lv' := [(3, xi (I 250 5)), (0, xq (some 250)), (1, xi v1), (2, xi v2), (4, xi v4)]) d_RF_matches_195 rfl (Nat.le_of_ble_eq_true rfl) rfl ?_
  refine xG_aload_n d_RF_matches_196 rfl rfl rfl ?_
  refine xG_iload_n d_RF_matches_197 rfl rfl ?_
  refine xG_aload_n d_RF_matches_198 rfl rfl rfl ?_
  refine xG_iload_n d_RF_matches_199 rfl rfl ?_
  refine xG_aload_n d_RF_matches_200 rfl rfl rfl ?_
  refine xG_geti d_RF_matches_201 xf_RF_83 rfl s0_250 ?_
  refine xG_aload_n d_RF_matches_204 rfl rfl rfl ?_
  refine xG_geti d_RF_matches_205 xf_RF_86 rfl s0_250 ?_
  refine xG_aload_n d_RF_matches_208 rfl rfl rfl ?_
  refine xG_geti d_RF_matches_209 xf_RF_89 rfl s0_250 ?_
  obtain ⟨Q1, hM, h⟩ := h
  refine xG_callv (as := [xi v1, xi (I 250 3), xi (I 250 4), xi (I 250 5)]) (rest := [xi v2, xq (some 250)]) d_RF_matches_212 yv_RF_leafValue w5_169 rfl rfl rfl s0_250 (by decide) rfl hM ⟨by decide, by decide⟩ (Nat.le_of_ble_eq_true rfl) ⟨Nat.zero_le _, Nat.zero_le _⟩ (fun r S1 I1 J1 P1 hp => ?_)
  obtain ⟨rfl, hL1, z1, rfl, hq⟩ := hp
  have h := h z1 I1 J1 P1 hq
  obtain ⟨Q2, hM, h⟩ := h
  refine xG_callv (as := [xi v2, xi z1]) (rest := []) d_RF_matches_215 yv_RF_into w5_165 rfl rfl rfl s0_250 (by decide) rfl hM ⟨by decide, by decide⟩ (Nat.le_of_ble_eq_true rfl) ⟨Nat.zero_le _, Nat.zero_le _⟩ (fun r S2 I2 J2 P2 hp => ?_)
  obtain ⟨rfl, hL2, rfl, hq⟩ := hp
  have h := h I2 J2 P2 hq
  refine xG_goto (tgt := 33) d_RF_matches_218 (by decide) ?_
  refine xG_pick [1, 2, 3, 0] rfl ?_
  exact h
theorem e_RF_matches {l : Launch} {V : xV} {Q : Int32 → xIt → xJt → xPt → Prop} {I : xIt} {J : xJt} {P : xPt} {v1 : Int32} (h : G_RF_matches l V Q 0 [(0, xq (some 250)), (1, xi v1)] [] I J P) : xMet l V y_RF_matches 5 0 0 [xq (some 250), xi v1] xS0 I J P (xPi Q) := xMet_of (by decide) (Nat.le_of_ble_eq_true rfl) h

abbrev G_RF_into (l : Launch) (V : xV) (Q : xIt → xJt → xPt → Prop) (pc : Nat) (lv : List (Nat × xX)) (st : List xX) (I : xIt) (J : xJt) (P : xPt) : Prop := xG l V y_RF_into (xR 1 0 0) (xFn V y_RF_into (xR 1 0 0) (xPv Q)) pc lv st xS0 I J P (0, 0)
set_option maxRecDepth 20000 in
theorem b_RF_into_0 {l : Launch} {V : xV} {Q : xIt → xJt → xPt → Prop} {I : xIt} {J : xJt} {P : xPt} (hL : xL P) {v1 : Int32} {v2 : Int32} (h : (vp_in v1 8 ∧ (((I 270 v1.toNatClampNeg) ≤ v2 → G_RF_into l V Q 17 [(0, xq (some 250)), (1, xi v1), (2, xi v2), (3, xi (I 270 v1.toNatClampNeg))] [xi 0] I J P) ∧ (¬ (I 270 v1.toNatClampNeg) ≤ v2 → G_RF_into l V Q 17 [(0, xq (some 250)), (1, xi v1), (2, xi v2), (3, xi (I 270 v1.toNatClampNeg))] [xi 1] I J P)))) : G_RF_into l V Q 0 [(0, xq (some 250)), (1, xi v1), (2, xi v2)] [] I J P := by
  refine xG_aload_n d_RF_into_0 rfl rfl rfl ?_
  refine xG_getq d_RF_into_1 xf_RF_71 rfl s0_250 ?_
  refine xG_iload_n d_RF_into_4 rfl rfl ?_
  refine xG_iald d_RF_into_5 (lp_250_41 hL) s0_270 h.1 ?_
  have h := h.2
  refine xG_istore_n (lv' := [(3, xi (I 270 v1.toNatClampNeg)), (0, xq (some 250)), (1, xi v1), (2, xi v2)]) d_RF_into_6 rfl (Nat.le_of_ble_eq_true rfl) rfl ?_
  refine xG_iload_n d_RF_into_7 rfl rfl ?_
  refine xG_iload_n d_RF_into_8 rfl rfl ?_
  refine xG_icmp_ge (tgt := 16) d_RF_into_9 (by decide) (fun c => ?_) (fun c => ?_)
  · have h := h.1 c
    refine xG_iconst (v := 0) d_RF_into_16 rfl ?_
    refine xG_pick [1, 2, 3, 0] rfl ?_
    exact h
  · have h := h.2 c
    refine xG_iconst (v := 1) d_RF_into_12 rfl ?_
    refine xG_goto (tgt := 17) d_RF_into_13 (by decide) ?_
    refine xG_pick [1, 2, 3, 0] rfl ?_
    exact h
set_option maxRecDepth 20000 in
theorem b_RF_into_17 {l : Launch} {V : xV} {Q : xIt → xJt → xPt → Prop} {I : xIt} {J : xJt} {P : xPt} (hL : xL P) {v1 : Int32} {v2 : Int32} {v3 : Int32} {u0 : Int32} (h : (vp_in v1 8 ∧ ((¬ (I 268 v1.toNatClampNeg) = 160 → ((¬ 0 = u0 → (vp_in v1 8 ∧ Q (xu I 270 v1.toNatClampNeg v3) J P)) ∧ (0 = u0 → (vp_in v1 8 ∧ Q (xu I 270 v1.toNatClampNeg v2) J P)))) ∧ ((I 268 v1.toNatClampNeg) = 160 → ((¬ 1 = u0 → (vp_in v1 8 ∧ Q (xu I 270 v1.toNatClampNeg v3) J P)) ∧ (1 = u0 → (vp_in v1 8 ∧ Q (xu I 270 v1.toNatClampNeg v2) J P))))))) : G_RF_into l V Q 17 [(0, xq (some 250)), (1, xi v1), (2, xi v2), (3, xi v3)] [xi u0] I J P := by
  refine xG_istore (lv' := [(4, xi u0), (0, xq (some 250)), (1, xi v1), (2, xi v2), (3, xi v3)]) d_RF_into_17 (Nat.le_of_ble_eq_true rfl) rfl ?_
  refine xG_aload_n d_RF_into_19 rfl rfl rfl ?_
  refine xG_getq d_RF_into_20 xf_RF_71 rfl s0_250 ?_
  refine xG_iload_n d_RF_into_23 rfl rfl ?_
  refine xG_aload_n d_RF_into_24 rfl rfl rfl ?_
  refine xG_getq d_RF_into_25 xf_RF_65 rfl s0_250 ?_
  refine xG_iload_n d_RF_into_28 rfl rfl ?_
  refine xG_iald d_RF_into_29 (lp_250_39 hL) s0_268 h.1 ?_
  have h := h.2
  refine xG_sipush (v := 160) d_RF_into_30 rfl ?_
  refine xG_icmp_ne (tgt := 40) d_RF_into_33 (by decide) (fun c => ?_) (fun c => ?_)
  · have h := h.1 c
    refine xG_iconst (v := 0) d_RF_into_40 rfl ?_
    refine xG_iload d_RF_into_41 rfl ?_
    refine xG_icmp_ne (tgt := 50) d_RF_into_43 (by decide) (fun c => ?_) (fun c => ?_)
    · have h := h.1 c
      refine xG_iload_n d_RF_into_50 rfl rfl ?_
      refine xG_iast d_RF_into_51 (lp_250_41 hL) s0_270 h.1 ?_
      have h := h.2
      exact xG_return d_RF_into_52 rfl ⟨rfl, hL, rfl, h⟩
    · have h := h.2 c
      refine xG_iload_n d_RF_into_46 rfl rfl ?_
      refine xG_goto (tgt := 51) d_RF_into_47 (by decide) ?_
      refine xG_iast d_RF_into_51 (lp_250_41 hL) s0_270 h.1 ?_
      have h := h.2
      exact xG_return d_RF_into_52 rfl ⟨rfl, hL, rfl, h⟩
  · have h := h.2 c
    refine xG_iconst (v := 1) d_RF_into_36 rfl ?_
    refine xG_goto (tgt := 41) d_RF_into_37 (by decide) ?_
    refine xG_iload d_RF_into_41 rfl ?_
    refine xG_icmp_ne (tgt := 50) d_RF_into_43 (by decide) (fun c => ?_) (fun c => ?_)
    · have h := h.1 c
      refine xG_iload_n d_RF_into_50 rfl rfl ?_
      refine xG_iast d_RF_into_51 (lp_250_41 hL) s0_270 h.1 ?_
      have h := h.2
      exact xG_return d_RF_into_52 rfl ⟨rfl, hL, rfl, h⟩
    · have h := h.2 c
      refine xG_iload_n d_RF_into_46 rfl rfl ?_
      refine xG_goto (tgt := 51) d_RF_into_47 (by decide) ?_
      refine xG_iast d_RF_into_51 (lp_250_41 hL) s0_270 h.1 ?_
      have h := h.2
      exact xG_return d_RF_into_52 rfl ⟨rfl, hL, rfl, h⟩
theorem e_RF_into {l : Launch} {V : xV} {Q : xIt → xJt → xPt → Prop} {I : xIt} {J : xJt} {P : xPt} {v1 : Int32} {v2 : Int32} (h : G_RF_into l V Q 0 [(0, xq (some 250)), (1, xi v1), (2, xi v2)] [] I J P) : xMet l V y_RF_into 1 0 0 [xq (some 250), xi v1, xi v2] xS0 I J P (xPv Q) := xMet_of (by decide) (Nat.le_of_ble_eq_true rfl) h

abbrev G_RF_leafValue (l : Launch) (V : xV) (Q : Int32 → xIt → xJt → xPt → Prop) (pc : Nat) (lv : List (Nat × xX)) (st : List xX) (I : xIt) (J : xJt) (P : xPt) : Prop := xG l V y_RF_leafValue (xR 4 0 0) (xFn V y_RF_leafValue (xR 4 0 0) (xPi Q)) pc lv st xS0 I J P (0, 0)
set_option maxRecDepth 20000 in
theorem b_RF_leafValue_0 {l : Launch} {V : xV} {Q : Int32 → xIt → xJt → xPt → Prop} {I : xIt} {J : xJt} {P : xPt} (hL : xL P) {v1 : Int32} {v2 : Int32} {v3 : Int32} {v4 : Int32} (h : ((¬ v2 = 135 → (∃ Q1 : Int32 → xIt → xJt → xPt → Prop, xMet l V y_RF_textB 3 0 0 [xq (some 250), xi v4] xS0 (xu I 250 6 v3) J P (xPi Q1) ∧ ∀ (z1 : Int32) (I1 : xIt) (J1 : xJt) (P1 : xPt), Q1 z1 I1 J1 P1 → ((z1 = 0 → G_RF_leafValue l V Q 75 [(0, xq (some 250)), (1, xi v1), (2, xi v2), (3, xi v3), (4, xi v4)] [xi (-1)] I1 J1 P1) ∧ (¬ z1 = 0 → (∃ Q2 : Int32 → xIt → xJt → xPt → Prop, xMet l V y_RF_typeAt 2 0 0 [xq (some 250), xi (I1 250 14), xi (I1 250 15)] xS0 I1 J1 P1 (xPi Q2) ∧ ∀ (z2 : Int32) (I2 : xIt) (J2 : xJt) (P2 : xPt), Q2 z2 I2 J2 P2 → G_RF_leafValue l V Q 75 [(0, xq (some 250)), (1, xi v1), (2, xi v2), (3, xi v3), (4, xi v4)] [xi z2] I2 J2 P2))))) ∧ (v2 = 135 → (∃ Q3 : Int32 → xIt → xJt → xPt → Prop, xMet l V y_RF_typeAt 2 0 0 [xq (some 250), xi v3, xi v4] xS0 I J P (xPi Q3) ∧ ∀ (z3 : Int32) (I3 : xIt) (J3 : xJt) (P3 : xPt), Q3 z3 I3 J3 P3 → ((0 ≤ z3 → (vp_in ((5 * v1) + z3) 65 ∧ (((I3 258 (((5 * v1) + z3).toNatClampNeg)) ≤ 0 → Q 0 I3 J3 P3) ∧ (¬ (I3 258 (((5 * v1) + z3).toNatClampNeg)) ≤ 0 → Q 2 I3 J3 P3)))) ∧ (¬ 0 ≤ z3 → Q 1 I3 J3 P3)))))) : G_RF_leafValue l V Q 0 [(0, xq (some 250)), (1, xi v1), (2, xi v2), (3, xi v3), (4, xi v4)] [] I J P := by
  refine xG_iload_n d_RF_leafValue_0 rfl rfl ?_
  refine xG_sipush (v := 135) d_RF_leafValue_1 rfl ?_
  refine xG_icmp_ne (tgt := 45) d_RF_leafValue_4 (by decide) (fun c => ?_) (fun c => ?_)
  · have h := h.1 c
    refine xG_aload_n d_RF_leafValue_45 rfl rfl rfl ?_
    refine xG_iload_n d_RF_leafValue_46 rfl rfl ?_
    refine xG_puti d_RF_leafValue_47 xf_RF_92 (Or.inl rfl) rfl s0_250 rfl rfl ?_
    refine xG_aload_n d_RF_leafValue_50 rfl rfl rfl ?_
    refine xG_iload d_RF_leafValue_51 rfl ?_
    obtain ⟨Q1, hM, h⟩ := h
    refine xG_callv (as := [xi v4]) (rest := []) d_RF_leafValue_53 yv_RF_textB w4_215 rfl rfl rfl s0_250 (by decide) rfl hM ⟨by decide, by decide⟩ (Nat.le_of_ble_eq_true rfl) ⟨Nat.zero_le _, Nat.zero_le _⟩ (fun r S1 I1 J1 P1 hp => ?_)
    obtain ⟨rfl, hL1, z1, rfl, hq⟩ := hp
    have h := h z1 I1 J1 P1 hq
    refine xG_if_eq (tgt := 74) d_RF_leafValue_56 (by decide) (fun c => ?_) (fun c => ?_)
    · have h := h.1 c
      refine xG_iconst (v := (-1)) d_RF_leafValue_74 rfl ?_
      exact h
    · have h := h.2 c
      refine xG_aload_n d_RF_leafValue_59 rfl rfl rfl ?_
      refine xG_aload_n d_RF_leafValue_60 rfl rfl rfl ?_
      refine xG_geti d_RF_leafValue_61 xf_RF_112 rfl s0_250 ?_
      refine xG_aload_n d_RF_leafValue_64 rfl rfl rfl ?_
      refine xG_geti d_RF_leafValue_65 xf_RF_115 rfl s0_250 ?_
      obtain ⟨Q2, hM, h⟩ := h
      refine xG_callv (as := [xi (I1 250 14), xi (I1 250 15)]) (rest := []) d_RF_leafValue_68 yv_RF_typeAt w5_19 rfl rfl rfl s0_250 (by decide) rfl hM ⟨by decide, by decide⟩ (Nat.le_of_ble_eq_true rfl) ⟨Nat.zero_le _, Nat.zero_le _⟩ (fun r S2 I2 J2 P2 hp => ?_)
      obtain ⟨rfl, hL2, z2, rfl, hq⟩ := hp
      have h := h z2 I2 J2 P2 hq
      refine xG_goto (tgt := 75) d_RF_leafValue_71 (by decide) ?_
      exact h
  · have h := h.2 c
    refine xG_aload_n d_RF_leafValue_7 rfl rfl rfl ?_
    refine xG_iload_n d_RF_leafValue_8 rfl rfl ?_
    refine xG_iload d_RF_leafValue_9 rfl ?_
    obtain ⟨Q3, hM, h⟩ := h
    refine xG_callv (as := [xi v3, xi v4]) (rest := []) d_RF_leafValue_11 yv_RF_typeAt w5_19 rfl rfl rfl s0_250 (by decide) rfl hM ⟨by decide, by decide⟩ (Nat.le_of_ble_eq_true rfl) ⟨Nat.zero_le _, Nat.zero_le _⟩ (fun r S3 I3 J3 P3 hp => ?_)
    obtain ⟨rfl, hL3, z3, rfl, hq⟩ := hp
    have h := h z3 I3 J3 P3 hq
    refine xG_istore (lv' := [(5, xi z3), (0, xq (some 250)), (1, xi v1), (2, xi v2), (3, xi v3), (4, xi v4)]) d_RF_leafValue_14 (Nat.le_of_ble_eq_true rfl) rfl ?_
    refine xG_iload d_RF_leafValue_16 rfl ?_
    refine xG_if_ge (tgt := 25) d_RF_leafValue_18 (by decide) (fun c => ?_) (fun c => ?_)
    · have h := h.1 c
      refine xG_aload_n d_RF_leafValue_25 rfl rfl rfl ?_
      refine xG_getq d_RF_leafValue_26 xf_RF_31 rfl s0_250 ?_
      refine xG_iconst (v := 5) d_RF_leafValue_29 rfl ?_
      refine xG_iload_n d_RF_leafValue_30 rfl rfl ?_
      refine xG_imul d_RF_leafValue_31 ?_
      refine xG_iload d_RF_leafValue_32 rfl ?_
      refine xG_iadd d_RF_leafValue_34 ?_
      refine xG_iald d_RF_leafValue_35 (lp_250_28 hL3) s0_258 h.1 ?_
      have h := h.2
      refine xG_topi (x' := I3 258 (((5 * v1) + z3).toNatClampNeg)) (by first | rfl | exact xu_at | simp [xu]) ?_
      refine xG_if_le (tgt := 43) d_RF_leafValue_36 (by decide) (fun c => ?_) (fun c => ?_)
      · have h := h.1 c
        refine xG_iconst (v := 0) d_RF_leafValue_43 rfl ?_
        exact xG_ireturn d_RF_leafValue_44 rfl rfl ⟨rfl, hL3, _, rfl, h⟩
      · have h := h.2 c
        refine xG_iconst (v := 2) d_RF_leafValue_39 rfl ?_
        refine xG_goto (tgt := 44) d_RF_leafValue_40 (by decide) ?_
        exact xG_ireturn d_RF_leafValue_44 rfl rfl ⟨rfl, hL3, _, rfl, h⟩
    · have h := h.2 c
      refine xG_iconst (v := 1) d_RF_leafValue_21 rfl ?_
      refine xG_goto (tgt := 44) d_RF_leafValue_22 (by decide) ?_
      exact xG_ireturn d_RF_leafValue_44 rfl rfl ⟨rfl, hL3, _, rfl, h⟩
set_option maxRecDepth 20000 in
theorem b_RF_leafValue_75 {l : Launch} {V : xV} {Q : Int32 → xIt → xJt → xPt → Prop} {I : xIt} {J : xJt} {P : xPt} (hL : xL P) {v1 : Int32} {v2 : Int32} {v3 : Int32} {v4 : Int32} {u0 : Int32} (h : ((u0 < 0 → Q 1 I J P) ∧ (¬ u0 < 0 → ((v2 = 163 → G_RF_leafValue l V Q 97 [(0, xq (some 250)), (1, xi v1), (2, xi v2), (3, xi v3), (4, xi v4), (5, xi u0)] [] I J P) ∧ (¬ v2 = 163 → ((u0 = 3 → G_RF_leafValue l V Q 97 [(0, xq (some 250)), (1, xi v1), (2, xi v2), (3, xi v3), (4, xi v4), (5, xi u0)] [] I J P) ∧ (¬ u0 = 3 → Q 1 I J P))))))) : G_RF_leafValue l V Q 75 [(0, xq (some 250)), (1, xi v1), (2, xi v2), (3, xi v3), (4, xi v4)] [xi u0] I J P := by
  refine xG_istore (lv' := [(5, xi u0), (0, xq (some 250)), (1, xi v1), (2, xi v2), (3, xi v3), (4, xi v4)]) d_RF_leafValue_75 (Nat.le_of_ble_eq_true rfl) rfl ?_
  refine xG_iload d_RF_leafValue_77 rfl ?_
  refine xG_if_lt (tgt := 95) d_RF_leafValue_79 (by decide) (fun c => ?_) (fun c => ?_)
  · have h := h.1 c
    refine xG_iconst (v := 1) d_RF_leafValue_95 rfl ?_
    exact xG_ireturn d_RF_leafValue_96 rfl rfl ⟨rfl, hL, _, rfl, h⟩
  · have h := h.2 c
    refine xG_iload_n d_RF_leafValue_82 rfl rfl ?_
    refine xG_sipush (v := 163) d_RF_leafValue_83 rfl ?_
    refine xG_icmp_eq (tgt := 97) d_RF_leafValue_86 (by decide) (fun c => ?_) (fun c => ?_)
    · have h := h.1 c
      refine xG_pick [1, 2, 3, 4, 5, 0] rfl ?_
      exact h
    · have h := h.2 c
      refine xG_iload d_RF_leafValue_89 rfl ?_
      refine xG_iconst (v := 3) d_RF_leafValue_91 rfl ?_
      refine xG_icmp_eq (tgt := 97) d_RF_leafValue_92 (by decide) (fun c => ?_) (fun c => ?_)
      · have h := h.1 c
        refine xG_pick [1, 2, 3, 4, 5, 0] rfl ?_
        exact h
      · have h := h.2 c
        refine xG_iconst (v := 1) d_RF_leafValue_95 rfl ?_
        exact xG_ireturn d_RF_leafValue_96 rfl rfl ⟨rfl, hL, _, rfl, h⟩
set_option maxRecDepth 20000 in
theorem b_RF_leafValue_97 {l : Launch} {V : xV} {Q : Int32 → xIt → xJt → xPt → Prop} {I : xIt} {J : xJt} {P : xPt} (hL : xL P) {v1 : Int32} {v2 : Int32} {v3 : Int32} {v4 : Int32} {v5 : Int32} (h : (∃ Q1 : Int32 → xIt → xJt → xPt → Prop, xMet l V y_RF_take 2 0 0 [xq (some 250), xi 4, xi 30, xi v4] xS0 I J P (xPi Q1) ∧ ∀ (z1 : Int32) (I1 : xIt) (J1 : xJt) (P1 : xPt), Q1 z1 I1 J1 P1 → (∃ Q2 : xIt → xJt → xPt → Prop, xMet l V y_RF_load 1 0 0 [xq (some 250), xi (I1 250 4), xi (I1 250 5)] xS0 I1 J1 P1 (xPv Q2) ∧ ∀ (I2 : xIt) (J2 : xJt) (P2 : xPt), Q2 I2 J2 P2 → ((z1 = 0 → G_RF_leafValue l V Q 136 [(0, xq (some 250)), (1, xi v1), (2, xi v2), (3, xi v3), (4, xi v4), (5, xi v5), (6, xi z1)] [xi (-1)] I2 J2 P2) ∧ (¬ z1 = 0 → (∃ Q3 : Int32 → xIt → xJt → xPt → Prop, xMet l V y_RF_formOf 3 0 0 [xq (some 250), xi v5, xi 3] xS0 I2 J2 P2 (xPi Q3) ∧ ∀ (z3 : Int32) (I3 : xIt) (J3 : xJt) (P3 : xPt), Q3 z3 I3 J3 P3 → G_RF_leafValue l V Q 136 [(0, xq (some 250)), (1, xi v1), (2, xi v2), (3, xi v3), (4, xi v4), (5, xi v5), (6, xi z1)] [xi z3] I3 J3 P3)))))) : G_RF_leafValue l V Q 97 [(0, xq (some 250)), (1, xi v1), (2, xi v2), (3, xi v3), (4, xi v4), (5, xi v5)] [] I J P := by
  refine xG_aload_n d_RF_leafValue_97 rfl rfl rfl ?_
  refine xG_iconst (v := 4) d_RF_leafValue_98 rfl ?_
  refine xG_bipush (v := 30) d_RF_leafValue_99 rfl ?_
  refine xG_iload d_RF_leafValue_101 rfl ?_
  obtain ⟨Q1, hM, h⟩ := h
  refine xG_callv (as := [xi 4, xi 30, xi v4]) (rest := []) d_RF_leafValue_103 yv_RF_take w4_191 rfl rfl rfl s0_250 (by decide) rfl hM ⟨by decide, by decide⟩ (Nat.le_of_ble_eq_true rfl) ⟨Nat.zero_le _, Nat.zero_le _⟩ (fun r S1 I1 J1 P1 hp => ?_)
  obtain ⟨rfl, hL1, z1, rfl, hq⟩ := hp
  have h := h z1 I1 J1 P1 hq
  refine xG_istore (lv' := [(6, xi z1), (0, xq (some 250)), (1, xi v1), (2, xi v2), (3, xi v3), (4, xi v4), (5, xi v5)]) d_RF_leafValue_106 (Nat.le_of_ble_eq_true rfl) rfl ?_
  refine xG_aload_n d_RF_leafValue_108 rfl rfl rfl ?_
  refine xG_aload_n d_RF_leafValue_109 rfl rfl rfl ?_
  refine xG_geti d_RF_leafValue_110 xf_RF_86 rfl s0_250 ?_
  refine xG_aload_n d_RF_leafValue_113 rfl rfl rfl ?_
  refine xG_geti d_RF_leafValue_114 xf_RF_89 rfl s0_250 ?_
  obtain ⟨Q2, hM, h⟩ := h
  refine xG_callv (as := [xi (I1 250 4), xi (I1 250 5)]) (rest := []) d_RF_leafValue_117 yv_RF_load w5_50 rfl rfl rfl s0_250 (by decide) rfl hM ⟨by decide, by decide⟩ (Nat.le_of_ble_eq_true rfl) ⟨Nat.zero_le _, Nat.zero_le _⟩ (fun r S2 I2 J2 P2 hp => ?_)
  obtain ⟨rfl, hL2, rfl, hq⟩ := hp
  have h := h I2 J2 P2 hq
  refine xG_iload d_RF_leafValue_120 rfl ?_
  refine xG_if_eq (tgt := 135) d_RF_leafValue_122 (by decide) (fun c => ?_) (fun c => ?_)
  · have h := h.1 c
    refine xG_iconst (v := (-1)) d_RF_leafValue_135 rfl ?_
    refine xG_pick [1, 2, 3, 4, 5, 6, 0] rfl ?_
    exact h
  · have h := h.2 c
    refine xG_aload_n d_RF_leafValue_125 rfl rfl rfl ?_
    refine xG_iload d_RF_leafValue_126 rfl ?_
    refine xG_iconst (v := 3) d_RF_leafValue_128 rfl ?_
    obtain ⟨Q3, hM, h⟩ := h
    refine xG_callv (as := [xi v5, xi 3]) (rest := []) d_RF_leafValue_129 yv_RF_formOf w5_30 rfl rfl rfl s0_250 (by decide) rfl hM ⟨by decide, by decide⟩ (Nat.le_of_ble_eq_true rfl) ⟨Nat.zero_le _, Nat.zero_le _⟩ (fun r S3 I3 J3 P3 hp => ?_)
    obtain ⟨rfl, hL3, z3, rfl, hq⟩ := hp
    have h := h z3 I3 J3 P3 hq
    refine xG_goto (tgt := 136) d_RF_leafValue_132 (by decide) ?_
    refine xG_pick [1, 2, 3, 4, 5, 6, 0] rfl ?_
    exact h
set_option maxRecDepth 20000 in
theorem b_RF_leafValue_136 {l : Launch} {V : xV} {Q : Int32 → xIt → xJt → xPt → Prop} {I : xIt} {J : xJt} {P : xPt} (hL : xL P) {v1 : Int32} {v2 : Int32} {v3 : Int32} {v4 : Int32} {v5 : Int32} {v6 : Int32} {u0 : Int32} (h : ((0 ≤ u0 → ((¬ v2 = 163 → (vp_in ((5 * v1) + 3) 65 ∧ ((¬ (I 258 (((5 * v1) + 3).toNatClampNeg)) = 0 → (∃ Q1 : Int32 → xIt → xJt → xPt → Prop, xMet l V y_RF_numberOf 1 0 0 [xq (some 250), xi 1, xi 24, xi u0] xS0 I J P (xPi Q1) ∧ ∀ (z1 : Int32) (I1 : xIt) (J1 : xJt) (P1 : xPt), Q1 z1 I1 J1 P1 → (vp_in ((15 * v1) + 9) 195 ∧ (∃ Q2 : Int32 → xIt → xJt → xPt → Prop, xMet l V y_RF_numberOf 1 0 0 [xq (some 250), xi 0, xi (6 * ((15 * v1) + 9)), xi (I1 261 (((15 * v1) + 9).toNatClampNeg))] xS0 I1 J1 P1 (xPi Q2) ∧ ∀ (z2 : Int32) (I2 : xIt) (J2 : xJt) (P2 : xPt), Q2 z2 I2 J2 P2 → ((¬ v2 = 165 → ((z1 < z2 → Q 0 I2 J2 P2) ∧ (¬ z1 < z2 → Q 2 I2 J2 P2))) ∧ (v2 = 165 → ((z2 < z1 → Q 0 I2 J2 P2) ∧ (¬ z2 < z1 → Q 2 I2 J2 P2)))))))) ∧ ((I 258 (((5 * v1) + 3).toNatClampNeg)) = 0 → Q 0 I J P)))) ∧ (v2 = 163 → (∃ Q3 : Int32 → xIt → xJt → xPt → Prop, xMet l V y_RF_placeOf 1 0 0 [xq (some 250), xi v1, xi v5, xi 3, xi u0] xS0 I J P (xPi Q3) ∧ ∀ (z3 : Int32) (I3 : xIt) (J3 : xJt) (P3 : xPt), Q3 z3 I3 J3 P3 → ((z3 < 0 → Q 0 I3 J3 P3) ∧ (¬ z3 < 0 → Q 2 I3 J3 P3)))))) ∧ (¬ 0 ≤ u0 → Q 1 I J P))) : G_RF_leafValue l V Q 136 [(0, xq (some 250)), (1, xi v1), (2, xi v2), (3, xi v3), (4, xi v4), (5, xi v5), (6, xi v6)] [xi u0] I J P := by
  refine xG_istore (lv' := [(7, xi u0), (0, xq (some 250)), (1, xi v1), (2, xi v2), (3, xi v3), (4, xi v4), (5, xi v5), (6, xi v6)]) d_RF_leafValue_136 (Nat.le_of_ble_eq_true rfl) rfl ?_
  refine xG_iload d_RF_leafValue_138 rfl ?_
  refine xG_if_ge (tgt := 145) d_RF_leafValue_140 (by decide) (fun c => ?_) (fun c => ?_)
  · have h := h.1 c
    refine xG_iload_n d_RF_leafValue_145 rfl rfl ?_
    refine xG_sipush (v := 163) d_RF_leafValue_146 rfl ?_
    refine xG_icmp_ne (tgt := 171) d_RF_leafValue_149 (by decide) (fun c => ?_) (fun c => ?_)
    · have h := h.1 c
      refine xG_aload_n d_RF_leafValue_171 rfl rfl rfl ?_
      refine xG_getq d_RF_leafValue_172 xf_RF_31 rfl s0_250 ?_
      refine xG_iconst (v := 5) d_RF_leafValue_175 rfl ?_
      refine xG_iload_n d_RF_leafValue_176 rfl rfl ?_
      refine xG_imul d_RF_leafValue_177 ?_
      refine xG_iconst (v := 3) d_RF_leafValue_178 rfl ?_
      refine xG_iadd d_RF_leafValue_179 ?_
      refine xG_iald d_RF_leafValue_180 (lp_250_28 hL) s0_258 h.1 ?_
      have h := h.2
      refine xG_topi (x' := I 258 (((5 * v1) + 3).toNatClampNeg)) (by first | rfl | exact xu_at | simp [xu]) ?_
      refine xG_if_ne (tgt := 186) d_RF_leafValue_181 (by decide) (fun c => ?_) (fun c => ?_)
      · have h := h.1 c
        refine xG_aload_n d_RF_leafValue_186 rfl rfl rfl ?_
        refine xG_iconst (v := 1) d_RF_leafValue_187 rfl ?_
        refine xG_bipush (v := 24) d_RF_leafValue_188 rfl ?_
        refine xG_iload d_RF_leafValue_190 rfl ?_
        obtain ⟨Q1, hM, h⟩ := h
        refine xG_callv (as := [xi 1, xi 24, xi u0]) (rest := []) d_RF_leafValue_192 yv_RF_numberOf w5_173 rfl rfl rfl s0_250 (by decide) rfl hM ⟨by decide, by decide⟩ (Nat.le_of_ble_eq_true rfl) ⟨Nat.zero_le _, Nat.zero_le _⟩ (fun r S1 I1 J1 P1 hp => ?_)
        obtain ⟨rfl, hL1, z1, rfl, hq⟩ := hp
        have h := h z1 I1 J1 P1 hq
        refine xG_istore (lv' := [(8, xi z1), (7, xi u0), (0, xq (some 250)), (1, xi v1), (2, xi v2), (3, xi v3), (4, xi v4), (5, xi v5), (6, xi v6)]) d_RF_leafValue_195 (Nat.le_of_ble_eq_true rfl) rfl ?_
        refine xG_aload_n d_RF_leafValue_197 rfl rfl rfl ?_
        refine xG_iconst (v := 0) d_RF_leafValue_198 rfl ?_
        refine xG_bipush (v := 6) d_RF_leafValue_199 rfl ?_
        refine xG_bipush (v := 15) d_RF_leafValue_201 rfl ?_
        refine xG_iload_n d_RF_leafValue_203 rfl rfl ?_
        refine xG_imul d_RF_leafValue_204 ?_
        refine xG_bipush (v := 9) d_RF_leafValue_205 rfl ?_
        refine xG_iadd d_RF_leafValue_207 ?_
        refine xG_imul d_RF_leafValue_208 ?_
        refine xG_aload_n d_RF_leafValue_209 rfl rfl rfl ?_
        refine xG_getq d_RF_leafValue_210 xf_RF_40 rfl s0_250 ?_
        refine xG_bipush (v := 15) d_RF_leafValue_213 rfl ?_
        refine xG_iload_n d_RF_leafValue_215 rfl rfl ?_
        refine xG_imul d_RF_leafValue_216 ?_
        refine xG_bipush (v := 9) d_RF_leafValue_217 rfl ?_
        refine xG_iadd d_RF_leafValue_219 ?_
        refine xG_iald d_RF_leafValue_220 (lp_250_31 hL1) s0_261 h.1 ?_
        have h := h.2
        refine xG_topi (x' := I1 261 (((15 * v1) + 9).toNatClampNeg)) (by first | rfl | exact xu_at | simp [xu]) ?_
        obtain ⟨Q2, hM, h⟩ := h
        refine xG_callv (as := [xi 0, xi (6 * ((15 * v1) + 9)), xi (I1 261 (((15 * v1) + 9).toNatClampNeg))]) (rest := []) d_RF_leafValue_221 yv_RF_numberOf w5_173 rfl rfl rfl s0_250 (by decide) rfl hM ⟨by decide, by decide⟩ (Nat.le_of_ble_eq_true rfl) ⟨Nat.zero_le _, Nat.zero_le _⟩ (fun r S2 I2 J2 P2 hp => ?_)
        obtain ⟨rfl, hL2, z2, rfl, hq⟩ := hp
        have h := h z2 I2 J2 P2 hq
        refine xG_istore (lv' := [(9, xi z2), (8, xi z1), (7, xi u0), (0, xq (some 250)), (1, xi v1), (2, xi v2), (3, xi v3), (4, xi v4), (5, xi v5), (6, xi v6)]) d_RF_leafValue_224 (Nat.le_of_ble_eq_true rfl) rfl ?_
        refine xG_iload_n d_RF_leafValue_226 rfl rfl ?_
        refine xG_sipush (v := 165) d_RF_leafValue_227 rfl ?_
        refine xG_icmp_ne (tgt := 243) d_RF_leafValue_230 (by decide) (fun c => ?_) (fun c => ?_)
        · have h := h.1 c
          refine xG_iload d_RF_leafValue_243 rfl ?_
          refine xG_iload d_RF_leafValue_245 rfl ?_
          refine xG_icmp_gt (tgt := 254) d_RF_leafValue_247 (by decide) (fun c => ?_) (fun c => ?_)
          · have h := h.1 c
            refine xG_iconst (v := 0) d_RF_leafValue_254 rfl ?_
            exact xG_ireturn d_RF_leafValue_255 rfl rfl ⟨rfl, hL2, _, rfl, h⟩
          · have h := h.2 c
            refine xG_iconst (v := 2) d_RF_leafValue_250 rfl ?_
            refine xG_goto (tgt := 255) d_RF_leafValue_251 (by decide) ?_
            exact xG_ireturn d_RF_leafValue_255 rfl rfl ⟨rfl, hL2, _, rfl, h⟩
        · have h := h.2 c
          refine xG_iload d_RF_leafValue_233 rfl ?_
          refine xG_iload d_RF_leafValue_235 rfl ?_
          refine xG_icmp_lt (tgt := 254) d_RF_leafValue_237 (by decide) (fun c => ?_) (fun c => ?_)
          · have h := h.1 c
            refine xG_iconst (v := 0) d_RF_leafValue_254 rfl ?_
            exact xG_ireturn d_RF_leafValue_255 rfl rfl ⟨rfl, hL2, _, rfl, h⟩
          · have h := h.2 c
            refine xG_goto (tgt := 250) d_RF_leafValue_240 (by decide) ?_
            refine xG_iconst (v := 2) d_RF_leafValue_250 rfl ?_
            refine xG_goto (tgt := 255) d_RF_leafValue_251 (by decide) ?_
            exact xG_ireturn d_RF_leafValue_255 rfl rfl ⟨rfl, hL2, _, rfl, h⟩
      · have h := h.2 c
        refine xG_iconst (v := 0) d_RF_leafValue_184 rfl ?_
        exact xG_ireturn d_RF_leafValue_185 rfl rfl ⟨rfl, hL, _, rfl, h⟩
    · have h := h.2 c
      refine xG_aload_n d_RF_leafValue_152 rfl rfl rfl ?_
      refine xG_iload_n d_RF_leafValue_153 rfl rfl ?_
      refine xG_iload d_RF_leafValue_154 rfl ?_
      refine xG_iconst (v := 3) d_RF_leafValue_156 rfl ?_
      refine xG_iload d_RF_leafValue_157 rfl ?_
      obtain ⟨Q3, hM, h⟩ := h
      refine xG_callv (as := [xi v1, xi v5, xi 3, xi u0]) (rest := []) d_RF_leafValue_159 yv_RF_placeOf w5_54 rfl rfl rfl s0_250 (by decide) rfl hM ⟨by decide, by decide⟩ (Nat.le_of_ble_eq_true rfl) ⟨Nat.zero_le _, Nat.zero_le _⟩ (fun r S3 I3 J3 P3 hp => ?_)
      obtain ⟨rfl, hL3, z3, rfl, hq⟩ := hp
      have h := h z3 I3 J3 P3 hq
      refine xG_if_lt (tgt := 169) d_RF_leafValue_162 (by decide) (fun c => ?_) (fun c => ?_)
      · have h := h.1 c
        refine xG_iconst (v := 0) d_RF_leafValue_169 rfl ?_
        exact xG_ireturn d_RF_leafValue_170 rfl rfl ⟨rfl, hL3, _, rfl, h⟩
      · have h := h.2 c
        refine xG_iconst (v := 2) d_RF_leafValue_165 rfl ?_
        refine xG_goto (tgt := 170) d_RF_leafValue_166 (by decide) ?_
        exact xG_ireturn d_RF_leafValue_170 rfl rfl ⟨rfl, hL3, _, rfl, h⟩
  · have h := h.2 c
    refine xG_iconst (v := 1) d_RF_leafValue_143 rfl ?_
    exact xG_ireturn d_RF_leafValue_144 rfl rfl ⟨rfl, hL, _, rfl, h⟩
theorem e_RF_leafValue {l : Launch} {V : xV} {Q : Int32 → xIt → xJt → xPt → Prop} {I : xIt} {J : xJt} {P : xPt} {v1 : Int32} {v2 : Int32} {v3 : Int32} {v4 : Int32} (h : G_RF_leafValue l V Q 0 [(0, xq (some 250)), (1, xi v1), (2, xi v2), (3, xi v3), (4, xi v4)] [] I J P) : xMet l V y_RF_leafValue 4 0 0 [xq (some 250), xi v1, xi v2, xi v3, xi v4] xS0 I J P (xPi Q) := xMet_of (by decide) (Nat.le_of_ble_eq_true rfl) h

abbrev G_RF_numberOf (l : Launch) (V : xV) (Q : Int32 → xIt → xJt → xPt → Prop) (pc : Nat) (lv : List (Nat × xX)) (st : List xX) (I : xIt) (J : xJt) (P : xPt) : Prop := xG l V y_RF_numberOf (xR 1 0 0) (xFn V y_RF_numberOf (xR 1 0 0) (xPi Q)) pc lv st xS0 I J P (0, 0)
set_option maxRecDepth 20000 in
theorem b_RF_numberOf_0 {l : Launch} {V : xV} {Q : Int32 → xIt → xJt → xPt → Prop} {I : xIt} {J : xJt} {P : xPt} (hL : xL P) {v1 : Int32} {v2 : Int32} {v3 : Int32} (h : G_RF_numberOf l V Q 9 [(0, xq (some 250)), (1, xi v1), (2, xi v2), (3, xi v3), (4, xi 0), (5, xi 0), (6, xi 0)] [] I J P) : G_RF_numberOf l V Q 0 [(0, xq (some 250)), (1, xi v1), (2, xi v2), (3, xi v3)] [] I J P := by
  refine xG_iconst (v := 0) d_RF_numberOf_0 rfl ?_
  refine xG_istore (lv' := [(4, xi 0), (0, xq (some 250)), (1, xi v1), (2, xi v2), (3, xi v3)]) d_RF_numberOf_1 (Nat.le_of_ble_eq_true rfl) rfl ?_
  refine xG_iconst (v := 0) d_RF_numberOf_3 rfl ?_
  refine xG_istore (lv' := [(5, xi 0), (4, xi 0), (0, xq (some 250)), (1, xi v1), (2, xi v2), (3, xi v3)]) d_RF_numberOf_4 (Nat.le_of_ble_eq_true rfl) rfl ?_
  refine xG_iconst (v := 0) d_RF_numberOf_6 rfl ?_
  refine xG_istore (lv' := [(6, xi 0), (5, xi 0), (4, xi 0), (0, xq (some 250)), (1, xi v1), (2, xi v2), (3, xi v3)]) d_RF_numberOf_7 (Nat.le_of_ble_eq_true rfl) rfl ?_
  refine xG_pick [3, 4, 5, 6, 2, 1, 0] rfl ?_
  exact h
set_option maxRecDepth 20000 in
theorem b_RF_numberOf_9 {l : Launch} {V : xV} {Q : Int32 → xIt → xJt → xPt → Prop} {I : xIt} {J : xJt} {P : xPt} (hL : xL P) {v1 : Int32} {v2 : Int32} {v3 : Int32} {v4 : Int32} {v5 : Int32} {v6 : Int32} (h : ((v3 ≤ v6 → ((v5 = 0 → Q v4 I J P) ∧ (¬ v5 = 0 → Q (-v4) I J P))) ∧ (¬ v3 ≤ v6 → ((v1 = 0 → (vp_in (v2 + v6) 1170 ∧ ((¬ v5 = 0 → G_RF_numberOf l V Q 59 [(0, xq (some 250)), (1, xi v1), (2, xi v2), (3, xi v3), (4, xi v4), (5, xi v5), (6, xi v6), (7, xi (I 262 ((v2 + v6).toNatClampNeg)))] [xi 1] I J P) ∧ (v5 = 0 → ((¬ (I 262 ((v2 + v6).toNatClampNeg)) = 45 → G_RF_numberOf l V Q 59 [(0, xq (some 250)), (1, xi v1), (2, xi v2), (3, xi v3), (4, xi v4), (5, xi v5), (6, xi v6), (7, xi (I 262 ((v2 + v6).toNatClampNeg)))] [xi 0] I J P) ∧ ((I 262 ((v2 + v6).toNatClampNeg)) = 45 → G_RF_numberOf l V Q 59 [(0, xq (some 250)), (1, xi v1), (2, xi v2), (3, xi v3), (4, xi v4), (5, xi v5), (6, xi v6), (7, xi (I 262 ((v2 + v6).toNatClampNeg)))] [xi 1] I J P)))))) ∧ (¬ v1 = 0 → (vp_in (v2 + v6) 40 ∧ ((¬ v5 = 0 → G_RF_numberOf l V Q 59 [(0, xq (some 250)), (1, xi v1), (2, xi v2), (3, xi v3), (4, xi v4), (5, xi v5), (6, xi v6), (7, xi (I 255 ((v2 + v6).toNatClampNeg)))] [xi 1] I J P) ∧ (v5 = 0 → ((¬ (I 255 ((v2 + v6).toNatClampNeg)) = 45 → G_RF_numberOf l V Q 59 [(0, xq (some 250)), (1, xi v1), (2, xi v2), (3, xi v3), (4, xi v4), (5, xi v5), (6, xi v6), (7, xi (I 255 ((v2 + v6).toNatClampNeg)))] [xi 0] I J P) ∧ ((I 255 ((v2 + v6).toNatClampNeg)) = 45 → G_RF_numberOf l V Q 59 [(0, xq (some 250)), (1, xi v1), (2, xi v2), (3, xi v3), (4, xi v4), (5, xi v5), (6, xi v6), (7, xi (I 255 ((v2 + v6).toNatClampNeg)))] [xi 1] I J P)))))))))) : G_RF_numberOf l V Q 9 [(0, xq (some 250)), (1, xi v1), (2, xi v2), (3, xi v3), (4, xi v4), (5, xi v5), (6, xi v6)] [] I J P := by
  refine xG_iload d_RF_numberOf_9 rfl ?_
  refine xG_iload_n d_RF_numberOf_11 rfl rfl ?_
  refine xG_icmp_ge (tgt := 92) d_RF_numberOf_12 (by decide) (fun c => ?_) (fun c => ?_)
  · have h := h.1 c
    refine xG_iload d_RF_numberOf_92 rfl ?_
    refine xG_if_eq (tgt := 103) d_RF_numberOf_94 (by decide) (fun c => ?_) (fun c => ?_)
    · have h := h.1 c
      refine xG_iload d_RF_numberOf_103 rfl ?_
      exact xG_ireturn d_RF_numberOf_105 rfl rfl ⟨rfl, hL, _, rfl, h⟩
    · have h := h.2 c
      refine xG_iload d_RF_numberOf_97 rfl ?_
      refine xG_ineg d_RF_numberOf_99 ?_
      refine xG_goto (tgt := 105) d_RF_numberOf_100 (by decide) ?_
      exact xG_ireturn d_RF_numberOf_105 rfl rfl ⟨rfl, hL, _, rfl, h⟩
  · have h := h.2 c
    refine xG_iload_n d_RF_numberOf_15 rfl rfl ?_
    refine xG_if_eq (tgt := 31) d_RF_numberOf_16 (by decide) (fun c => ?_) (fun c => ?_)
    · have h := h.1 c
      refine xG_aload_n d_RF_numberOf_31 rfl rfl rfl ?_
      refine xG_getq d_RF_numberOf_32 xf_RF_43 rfl s0_250 ?_
      refine xG_iload_n d_RF_numberOf_35 rfl rfl ?_
      refine xG_iload d_RF_numberOf_36 rfl ?_
      refine xG_iadd d_RF_numberOf_38 ?_
      refine xG_iald d_RF_numberOf_39 (lp_250_32 hL) s0_262 h.1 ?_
      have h := h.2
      refine xG_topi (x' := I 262 ((v2 + v6).toNatClampNeg)) (by first | rfl | exact xu_at | simp [xu]) ?_
      refine xG_istore (lv' := [(7, xi (I 262 ((v2 + v6).toNatClampNeg))), (0, xq (some 250)), (1, xi v1), (2, xi v2), (3, xi v3), (4, xi v4), (5, xi v5), (6, xi v6)]) d_RF_numberOf_40 (Nat.le_of_ble_eq_true rfl) rfl ?_
      refine xG_iload d_RF_numberOf_42 rfl ?_
      refine xG_if_ne (tgt := 54) d_RF_numberOf_44 (by decide) (fun c => ?_) (fun c => ?_)
      · have h := h.1 c
        refine xG_iconst (v := 1) d_RF_numberOf_54 rfl ?_
        refine xG_goto (tgt := 59) d_RF_numberOf_55 (by decide) ?_
        refine xG_pick [1, 2, 3, 4, 5, 6, 7, 0] rfl ?_
        exact h
      · have h := h.2 c
        refine xG_iload d_RF_numberOf_47 rfl ?_
        refine xG_bipush (v := 45) d_RF_numberOf_49 rfl ?_
        refine xG_icmp_ne (tgt := 58) d_RF_numberOf_51 (by decide) (fun c => ?_) (fun c => ?_)
        · have h := h.1 c
          refine xG_iconst (v := 0) d_RF_numberOf_58 rfl ?_
          refine xG_pick [1, 2, 3, 4, 5, 6, 7, 0] rfl ?_
          exact h
        · have h := h.2 c
          refine xG_iconst (v := 1) d_RF_numberOf_54 rfl ?_
          refine xG_goto (tgt := 59) d_RF_numberOf_55 (by decide) ?_
          refine xG_pick [1, 2, 3, 4, 5, 6, 7, 0] rfl ?_
          exact h
    · have h := h.2 c
      refine xG_aload_n d_RF_numberOf_19 rfl rfl rfl ?_
      refine xG_getq d_RF_numberOf_20 xf_RF_22 rfl s0_250 ?_
      refine xG_iload_n d_RF_numberOf_23 rfl rfl ?_
      refine xG_iload d_RF_numberOf_24 rfl ?_
      refine xG_iadd d_RF_numberOf_26 ?_
      refine xG_iald d_RF_numberOf_27 (lp_250_23 hL) s0_255 h.1 ?_
      have h := h.2
      refine xG_topi (x' := I 255 ((v2 + v6).toNatClampNeg)) (by first | rfl | exact xu_at | simp [xu]) ?_
      refine xG_goto (tgt := 40) d_RF_numberOf_28 (by decide) ?_
      refine xG_istore (lv' := [(7, xi (I 255 ((v2 + v6).toNatClampNeg))), (0, xq (some 250)), (1, xi v1), (2, xi v2), (3, xi v3), (4, xi v4), (5, xi v5), (6, xi v6)]) d_RF_numberOf_40 (Nat.le_of_ble_eq_true rfl) rfl ?_
      refine xG_iload d_RF_numberOf_42 rfl ?_
      refine xG_if_ne (tgt := 54) d_RF_numberOf_44 (by decide) (fun c => ?_) (fun c => ?_)
      · have h := h.1 c
        refine xG_iconst (v := 1) d_RF_numberOf_54 rfl ?_
        refine xG_goto (tgt := 59) d_RF_numberOf_55 (by decide) ?_
        refine xG_pick [1, 2, 3, 4, 5, 6, 7, 0] rfl ?_
        exact h
      · have h := h.2 c
        refine xG_iload d_RF_numberOf_47 rfl ?_
        refine xG_bipush (v := 45) d_RF_numberOf_49 rfl ?_
        refine xG_icmp_ne (tgt := 58) d_RF_numberOf_51 (by decide) (fun c => ?_) (fun c => ?_)
        · have h := h.1 c
          refine xG_iconst (v := 0) d_RF_numberOf_58 rfl ?_
          refine xG_pick [1, 2, 3, 4, 5, 6, 7, 0] rfl ?_
          exact h
        · have h := h.2 c
          refine xG_iconst (v := 1) d_RF_numberOf_54 rfl ?_
          refine xG_goto (tgt := 59) d_RF_numberOf_55 (by decide) ?_
          refine xG_pick [1, 2, 3, 4, 5, 6, 7, 0] rfl ?_
          exact h
set_option maxRecDepth 20000 in
theorem b_RF_numberOf_59 {l : Launch} {V : xV} {Q : Int32 → xIt → xJt → xPt → Prop} {I : xIt} {J : xJt} {P : xPt} (hL : xL P) {v1 : Int32} {v2 : Int32} {v3 : Int32} {v4 : Int32} {v5 : Int32} {v6 : Int32} {v7 : Int32} {u0 : Int32} (h : ((¬ v7 = 45 → G_RF_numberOf l V Q 9 [(0, xq (some 250)), (1, xi v1), (2, xi v2), (3, xi v3), (4, xi (((10 * v4) + v7) - 48)), (5, xi u0), (6, xi (v6 + 1))] [] I J P) ∧ (v7 = 45 → G_RF_numberOf l V Q 9 [(0, xq (some 250)), (1, xi v1), (2, xi v2), (3, xi v3), (4, xi v4), (5, xi u0), (6, xi (v6 + 1))] [] I J P))) : G_RF_numberOf l V Q 59 [(0, xq (some 250)), (1, xi v1), (2, xi v2), (3, xi v3), (4, xi v4), (5, xi v5), (6, xi v6), (7, xi v7)] [xi u0] I J P := by
  refine xG_istore (lv' := [(5, xi u0), (0, xq (some 250)), (1, xi v1), (2, xi v2), (3, xi v3), (4, xi v4), (6, xi v6), (7, xi v7)]) d_RF_numberOf_59 (Nat.le_of_ble_eq_true rfl) rfl ?_
  refine xG_iload d_RF_numberOf_61 rfl ?_
  refine xG_bipush (v := 45) d_RF_numberOf_63 rfl ?_
  refine xG_icmp_ne (tgt := 73) d_RF_numberOf_65 (by decide) (fun c => ?_) (fun c => ?_)
  · have h := h.1 c
    refine xG_bipush (v := 10) d_RF_numberOf_73 rfl ?_
    refine xG_iload d_RF_numberOf_75 rfl ?_
    refine xG_imul d_RF_numberOf_77 ?_
    refine xG_iload d_RF_numberOf_78 rfl ?_
    refine xG_iadd d_RF_numberOf_80 ?_
    refine xG_bipush (v := 48) d_RF_numberOf_81 rfl ?_
    refine xG_isub d_RF_numberOf_83 ?_
    refine xG_istore (lv' := [(4, xi (((10 * v4) + v7) - 48)), (5, xi u0), (0, xq (some 250)), (1, xi v1), (2, xi v2), (3, xi v3), (6, xi v6), (7, xi v7)]) d_RF_numberOf_84 (Nat.le_of_ble_eq_true rfl) rfl ?_
    refine xG_iinc (v := v6 + 1) (lv' := [(6, xi (v6 + 1)), (4, xi (((10 * v4) + v7) - 48)), (5, xi u0), (0, xq (some 250)), (1, xi v1), (2, xi v2), (3, xi v3), (7, xi v7)]) d_RF_numberOf_86 rfl rfl (Nat.le_of_ble_eq_true rfl) rfl ?_
    refine xG_goto (tgt := 9) d_RF_numberOf_89 (by decide) ?_
    refine xG_pick [3, 4, 5, 6, 1, 2, 0] rfl ?_
    exact h
  · have h := h.2 c
    refine xG_iload d_RF_numberOf_68 rfl ?_
    refine xG_goto (tgt := 84) d_RF_numberOf_70 (by decide) ?_
    refine xG_istore (lv' := [(4, xi v4), (5, xi u0), (0, xq (some 250)), (1, xi v1), (2, xi v2), (3, xi v3), (6, xi v6), (7, xi v7)]) d_RF_numberOf_84 (Nat.le_of_ble_eq_true rfl) rfl ?_
    refine xG_iinc (v := v6 + 1) (lv' := [(6, xi (v6 + 1)), (4, xi v4), (5, xi u0), (0, xq (some 250)), (1, xi v1), (2, xi v2), (3, xi v3), (7, xi v7)]) d_RF_numberOf_86 rfl rfl (Nat.le_of_ble_eq_true rfl) rfl ?_
    refine xG_goto (tgt := 9) d_RF_numberOf_89 (by decide) ?_
    refine xG_pick [3, 4, 5, 6, 1, 2, 0] rfl ?_
    exact h
theorem e_RF_numberOf {l : Launch} {V : xV} {Q : Int32 → xIt → xJt → xPt → Prop} {I : xIt} {J : xJt} {P : xPt} {v1 : Int32} {v2 : Int32} {v3 : Int32} (h : G_RF_numberOf l V Q 0 [(0, xq (some 250)), (1, xi v1), (2, xi v2), (3, xi v3)] [] I J P) : xMet l V y_RF_numberOf 1 0 0 [xq (some 250), xi v1, xi v2, xi v3] xS0 I J P (xPi Q) := xMet_of (by decide) (Nat.le_of_ble_eq_true rfl) h

abbrev G_RF_put (l : Launch) (V : xV) (Q : xIt → xJt → xPt → Prop) (pc : Nat) (lv : List (Nat × xX)) (st : List xX) (I : xIt) (J : xJt) (P : xPt) : Prop := xG l V y_RF_put (xR 1 0 0) (xFn V y_RF_put (xR 1 0 0) (xPv Q)) pc lv st xS0 I J P (0, 0)
set_option maxRecDepth 20000 in
theorem b_RF_put_0 {l : Launch} {V : xV} {Q : xIt → xJt → xPt → Prop} {I : xIt} {J : xJt} {P : xPt} (hL : xL P) {v1 : Int32} (h : (vp_in (I 250 44) 256 ∧ Q (xu (xu I 272 ((I 250 44).toNatClampNeg) v1) 250 44 ((I 250 44) + 1)) J P)) : G_RF_put l V Q 0 [(0, xq (some 250)), (1, xi v1)] [] I J P := by
  refine xG_aload_n d_RF_put_0 rfl rfl rfl ?_
  refine xG_getq d_RF_put_1 xf_RF_77 rfl s0_250 ?_
  refine xG_aload_n d_RF_put_4 rfl rfl rfl ?_
  refine xG_geti d_RF_put_5 xf_RF_299 rfl s0_250 ?_
  refine xG_iload_n d_RF_put_8 rfl rfl ?_
  refine xG_iast d_RF_put_9 (lp_250_45 hL) s0_272 h.1 ?_
  have h := h.2
  refine xG_aload_n d_RF_put_10 rfl rfl rfl ?_
  refine xG_dup d_RF_put_11 rfl ?_
  refine xG_geti d_RF_put_12 xf_RF_299 rfl s0_250 ?_
  refine xG_topi (x' := I 250 44) (by first | rfl | exact xu_at | simp [xu]) ?_
  refine xG_iconst (v := 1) d_RF_put_15 rfl ?_
  refine xG_iadd d_RF_put_16 ?_
  refine xG_puti d_RF_put_17 xf_RF_299 (Or.inl rfl) rfl s0_250 rfl rfl ?_
  exact xG_return d_RF_put_20 rfl ⟨rfl, hL, rfl, h⟩
theorem e_RF_put {l : Launch} {V : xV} {Q : xIt → xJt → xPt → Prop} {I : xIt} {J : xJt} {P : xPt} {v1 : Int32} (h : G_RF_put l V Q 0 [(0, xq (some 250)), (1, xi v1)] [] I J P) : xMet l V y_RF_put 1 0 0 [xq (some 250), xi v1] xS0 I J P (xPv Q) := xMet_of (by decide) (Nat.le_of_ble_eq_true rfl) h

abbrev G_RF_close (l : Launch) (V : xV) (Q : xIt → xJt → xPt → Prop) (pc : Nat) (lv : List (Nat × xX)) (st : List xX) (I : xIt) (J : xJt) (P : xPt) : Prop := xG l V y_RF_close (xR 2 0 0) (xFn V y_RF_close (xR 2 0 0) (xPv Q)) pc lv st xS0 I J P (0, 0)
set_option maxRecDepth 20000 in
theorem b_RF_close_0 {l : Launch} {V : xV} {Q : xIt → xJt → xPt → Prop} {I : xIt} {J : xJt} {P : xPt} (hL : xL P) {v1 : Int32} {v2 : Int32} (h : (∃ Q1 : xIt → xJt → xPt → Prop, xMet l V y_RF_put 1 0 0 [xq (some 250), xi ((I 250 44) - v2)] xS0 I J P (xPv Q1) ∧ ∀ (I1 : xIt) (J1 : xJt) (P1 : xPt), Q1 I1 J1 P1 → ((((I 250 44) - v2) ≤ 127 → (∃ Q2 : xIt → xJt → xPt → Prop, xMet l V y_RF_put 1 0 0 [xq (some 250), xi v1] xS0 I1 J1 P1 (xPv Q2) ∧ ∀ (I2 : xIt) (J2 : xJt) (P2 : xPt), Q2 I2 J2 P2 → Q I2 J2 P2)) ∧ (¬ ((I 250 44) - v2) ≤ 127 → (∃ Q3 : xIt → xJt → xPt → Prop, xMet l V y_RF_put 1 0 0 [xq (some 250), xi 129] xS0 I1 J1 P1 (xPv Q3) ∧ ∀ (I3 : xIt) (J3 : xJt) (P3 : xPt), Q3 I3 J3 P3 → (∃ Q4 : xIt → xJt → xPt → Prop, xMet l V y_RF_put 1 0 0 [xq (some 250), xi v1] xS0 I3 J3 P3 (xPv Q4) ∧ ∀ (I4 : xIt) (J4 : xJt) (P4 : xPt), Q4 I4 J4 P4 → Q I4 J4 P4)))))) : G_RF_close l V Q 0 [(0, xq (some 250)), (1, xi v1), (2, xi v2)] [] I J P := by
  refine xG_aload_n d_RF_close_0 rfl rfl rfl ?_
  refine xG_geti d_RF_close_1 xf_RF_299 rfl s0_250 ?_
  refine xG_iload_n d_RF_close_4 rfl rfl ?_
  refine xG_isub d_RF_close_5 ?_
  refine xG_istore_n (lv' := [(3, xi ((I 250 44) - v2)), (0, xq (some 250)), (1, xi v1), (2, xi v2)]) d_RF_close_6 rfl (Nat.le_of_ble_eq_true rfl) rfl ?_
  refine xG_aload_n d_RF_close_7 rfl rfl rfl ?_
  refine xG_iload_n d_RF_close_8 rfl rfl ?_
  obtain ⟨Q1, hM, h⟩ := h
  refine xG_callv (as := [xi ((I 250 44) - v2)]) (rest := []) d_RF_close_9 yv_RF_put w5_62 rfl rfl rfl s0_250 (by decide) rfl hM ⟨by decide, by decide⟩ (Nat.le_of_ble_eq_true rfl) ⟨Nat.zero_le _, Nat.zero_le _⟩ (fun r S1 I1 J1 P1 hp => ?_)
  obtain ⟨rfl, hL1, rfl, hq⟩ := hp
  have h := h I1 J1 P1 hq
  refine xG_iload_n d_RF_close_12 rfl rfl ?_
  refine xG_bipush (v := 127) d_RF_close_13 rfl ?_
  refine xG_icmp_le (tgt := 25) d_RF_close_15 (by decide) (fun c => ?_) (fun c => ?_)
  · have h := h.1 c
    refine xG_aload_n d_RF_close_25 rfl rfl rfl ?_
    refine xG_iload_n d_RF_close_26 rfl rfl ?_
    obtain ⟨Q2, hM, h⟩ := h
    refine xG_callv (as := [xi v1]) (rest := []) d_RF_close_27 yv_RF_put w5_62 rfl rfl rfl s0_250 (by decide) rfl hM ⟨by decide, by decide⟩ (Nat.le_of_ble_eq_true rfl) ⟨Nat.zero_le _, Nat.zero_le _⟩ (fun r S2 I2 J2 P2 hp => ?_)
    obtain ⟨rfl, hL2, rfl, hq⟩ := hp
    have h := h I2 J2 P2 hq
    exact xG_return d_RF_close_30 rfl ⟨rfl, hL2, rfl, h⟩
  · have h := h.2 c
    refine xG_aload_n d_RF_close_18 rfl rfl rfl ?_
    refine xG_sipush (v := 129) d_RF_close_19 rfl ?_
    obtain ⟨Q3, hM, h⟩ := h
    refine xG_callv (as := [xi 129]) (rest := []) d_RF_close_22 yv_RF_put w5_62 rfl rfl rfl s0_250 (by decide) rfl hM ⟨by decide, by decide⟩ (Nat.le_of_ble_eq_true rfl) ⟨Nat.zero_le _, Nat.zero_le _⟩ (fun r S3 I3 J3 P3 hp => ?_)
    obtain ⟨rfl, hL3, rfl, hq⟩ := hp
    have h := h I3 J3 P3 hq
    refine xG_aload_n d_RF_close_25 rfl rfl rfl ?_
    refine xG_iload_n d_RF_close_26 rfl rfl ?_
    obtain ⟨Q4, hM, h⟩ := h
    refine xG_callv (as := [xi v1]) (rest := []) d_RF_close_27 yv_RF_put w5_62 rfl rfl rfl s0_250 (by decide) rfl hM ⟨by decide, by decide⟩ (Nat.le_of_ble_eq_true rfl) ⟨Nat.zero_le _, Nat.zero_le _⟩ (fun r S4 I4 J4 P4 hp => ?_)
    obtain ⟨rfl, hL4, rfl, hq⟩ := hp
    have h := h I4 J4 P4 hq
    exact xG_return d_RF_close_30 rfl ⟨rfl, hL4, rfl, h⟩
theorem e_RF_close {l : Launch} {V : xV} {Q : xIt → xJt → xPt → Prop} {I : xIt} {J : xJt} {P : xPt} {v1 : Int32} {v2 : Int32} (h : G_RF_close l V Q 0 [(0, xq (some 250)), (1, xi v1), (2, xi v2)] [] I J P) : xMet l V y_RF_close 2 0 0 [xq (some 250), xi v1, xi v2] xS0 I J P (xPv Q) := xMet_of (by decide) (Nat.le_of_ble_eq_true rfl) h

abbrev G_RF_ship (l : Launch) (V : xV) (Q : xIt → xJt → xPt → Prop) (pc : Nat) (lv : List (Nat × xX)) (st : List xX) (I : xIt) (J : xJt) (P : xPt) : Prop := xG l V y_RF_ship (xR 3 0 0) (xFn V y_RF_ship (xR 3 0 0) (xPv Q)) pc lv st xS0 I J P (0, 0)
set_option maxRecDepth 20000 in
theorem b_RF_ship_0 {l : Launch} {V : xV} {Q : xIt → xJt → xPt → Prop} {I : xIt} {J : xJt} {P : xPt} (hL : xL P)  (h : (∃ Q1 : xIt → xJt → xPt → Prop, xMet l V y_RF_put 1 0 0 [xq (some 250), xi ((I 250 8) - (I 250 8) / 256 * 256)] xS0 I J P (xPv Q1) ∧ ∀ (I1 : xIt) (J1 : xJt) (P1 : xPt), Q1 I1 J1 P1 → (((I1 250 8) ≤ 127 → (∃ Q2 : xIt → xJt → xPt → Prop, xMet l V y_RF_close 2 0 0 [xq (some 250), xi 2, xi (I 250 44)] xS0 I1 J1 P1 (xPv Q2) ∧ ∀ (I2 : xIt) (J2 : xJt) (P2 : xPt), Q2 I2 J2 P2 → (∃ Q3 : xIt → xJt → xPt → Prop, xMet l V y_RF_close 2 0 0 [xq (some 250), xi 48, xi 0] xS0 I2 J2 P2 (xPv Q3) ∧ ∀ (I3 : xIt) (J3 : xJt) (P3 : xPt), Q3 I3 J3 P3 → G_RF_ship l V Q 58 [(0, xq (some 250)), (1, xi (I 250 44)), (2, xi ((I3 250 44) - 1))] [] I3 J3 P3))) ∧ (¬ (I1 250 8) ≤ 127 → (∃ Q4 : xIt → xJt → xPt → Prop, xMet l V y_RF_put 1 0 0 [xq (some 250), xi ((I1 250 8) / 256)] xS0 I1 J1 P1 (xPv Q4) ∧ ∀ (I4 : xIt) (J4 : xJt) (P4 : xPt), Q4 I4 J4 P4 → (∃ Q5 : xIt → xJt → xPt → Prop, xMet l V y_RF_close 2 0 0 [xq (some 250), xi 2, xi (I 250 44)] xS0 I4 J4 P4 (xPv Q5) ∧ ∀ (I5 : xIt) (J5 : xJt) (P5 : xPt), Q5 I5 J5 P5 → (∃ Q6 : xIt → xJt → xPt → Prop, xMet l V y_RF_close 2 0 0 [xq (some 250), xi 48, xi 0] xS0 I5 J5 P5 (xPv Q6) ∧ ∀ (I6 : xIt) (J6 : xJt) (P6 : xPt), Q6 I6 J6 P6 → G_RF_ship l V Q 58 [(0, xq (some 250)), (1, xi (I 250 44)), (2, xi ((I6 250 44) - 1))] [] I6 J6 P6))))))) : G_RF_ship l V Q 0 [(0, xq (some 250))] [] I J P := by
  refine xG_aload_n d_RF_ship_0 rfl rfl rfl ?_
  refine xG_geti d_RF_ship_1 xf_RF_299 rfl s0_250 ?_
  refine xG_istore_n (lv' := [(1, xi (I 250 44)), (0, xq (some 250))]) d_RF_ship_4 rfl (Nat.le_of_ble_eq_true rfl) rfl ?_
  refine xG_aload_n d_RF_ship_5 rfl rfl rfl ?_
  refine xG_aload_n d_RF_ship_6 rfl rfl rfl ?_
  refine xG_geti d_RF_ship_7 xf_RF_131 rfl s0_250 ?_
  refine xG_sipush (v := 256) d_RF_ship_10 rfl ?_
  refine xG_irem d_RF_ship_13 (by decide) ?_
  obtain ⟨Q1, hM, h⟩ := h
  refine xG_callv (as := [xi ((I 250 8) - (I 250 8) / 256 * 256)]) (rest := []) d_RF_ship_14 yv_RF_put w5_62 rfl rfl rfl s0_250 (by decide) rfl hM ⟨by decide, by decide⟩ (Nat.le_of_ble_eq_true rfl) ⟨Nat.zero_le _, Nat.zero_le _⟩ (fun r S1 I1 J1 P1 hp => ?_)
  obtain ⟨rfl, hL1, rfl, hq⟩ := hp
  have h := h I1 J1 P1 hq
  refine xG_aload_n d_RF_ship_17 rfl rfl rfl ?_
  refine xG_geti d_RF_ship_18 xf_RF_131 rfl s0_250 ?_
  refine xG_bipush (v := 127) d_RF_ship_21 rfl ?_
  refine xG_icmp_le (tgt := 38) d_RF_ship_23 (by decide) (fun c => ?_) (fun c => ?_)
  · have h := h.1 c
    refine xG_aload_n d_RF_ship_38 rfl rfl rfl ?_
    refine xG_iconst (v := 2) d_RF_ship_39 rfl ?_
    refine xG_iload_n d_RF_ship_40 rfl rfl ?_
    obtain ⟨Q2, hM, h⟩ := h
    refine xG_callv (as := [xi 2, xi (I 250 44)]) (rest := []) d_RF_ship_41 yv_RF_close w5_66 rfl rfl rfl s0_250 (by decide) rfl hM ⟨by decide, by decide⟩ (Nat.le_of_ble_eq_true rfl) ⟨Nat.zero_le _, Nat.zero_le _⟩ (fun r S2 I2 J2 P2 hp => ?_)
    obtain ⟨rfl, hL2, rfl, hq⟩ := hp
    have h := h I2 J2 P2 hq
    refine xG_aload_n d_RF_ship_44 rfl rfl rfl ?_
    refine xG_bipush (v := 48) d_RF_ship_45 rfl ?_
    refine xG_iconst (v := 0) d_RF_ship_47 rfl ?_
    obtain ⟨Q3, hM, h⟩ := h
    refine xG_callv (as := [xi 48, xi 0]) (rest := []) d_RF_ship_48 yv_RF_close w5_66 rfl rfl rfl s0_250 (by decide) rfl hM ⟨by decide, by decide⟩ (Nat.le_of_ble_eq_true rfl) ⟨Nat.zero_le _, Nat.zero_le _⟩ (fun r S3 I3 J3 P3 hp => ?_)
    obtain ⟨rfl, hL3, rfl, hq⟩ := hp
    have h := h I3 J3 P3 hq
    refine xG_aload_n d_RF_ship_51 rfl rfl rfl ?_
    refine xG_geti d_RF_ship_52 xf_RF_299 rfl s0_250 ?_
    refine xG_iconst (v := 1) d_RF_ship_55 rfl ?_
    refine xG_isub d_RF_ship_56 ?_
    refine xG_istore_n (lv' := [(2, xi ((I3 250 44) - 1)), (1, xi (I 250 44)), (0, xq (some 250))]) d_RF_ship_57 rfl (Nat.le_of_ble_eq_true rfl) rfl ?_
    refine xG_pick [2, 1, 0] rfl ?_
    exact h
  · have h := h.2 c
    refine xG_aload_n d_RF_ship_26 rfl rfl rfl ?_
    refine xG_aload_n d_RF_ship_27 rfl rfl rfl ?_
    refine xG_geti d_RF_ship_28 xf_RF_131 rfl s0_250 ?_
    refine xG_sipush (v := 256) d_RF_ship_31 rfl ?_
    refine xG_idiv d_RF_ship_34 (by decide) ?_
    obtain ⟨Q4, hM, h⟩ := h
    refine xG_callv (as := [xi ((I1 250 8) / 256)]) (rest := []) d_RF_ship_35 yv_RF_put w5_62 rfl rfl rfl s0_250 (by decide) rfl hM ⟨by decide, by decide⟩ (Nat.le_of_ble_eq_true rfl) ⟨Nat.zero_le _, Nat.zero_le _⟩ (fun r S4 I4 J4 P4 hp => ?_)
    obtain ⟨rfl, hL4, rfl, hq⟩ := hp
    have h := h I4 J4 P4 hq
    refine xG_aload_n d_RF_ship_38 rfl rfl rfl ?_
    refine xG_iconst (v := 2) d_RF_ship_39 rfl ?_
    refine xG_iload_n d_RF_ship_40 rfl rfl ?_
    obtain ⟨Q5, hM, h⟩ := h
    refine xG_callv (as := [xi 2, xi (I 250 44)]) (rest := []) d_RF_ship_41 yv_RF_close w5_66 rfl rfl rfl s0_250 (by decide) rfl hM ⟨by decide, by decide⟩ (Nat.le_of_ble_eq_true rfl) ⟨Nat.zero_le _, Nat.zero_le _⟩ (fun r S5 I5 J5 P5 hp => ?_)
    obtain ⟨rfl, hL5, rfl, hq⟩ := hp
    have h := h I5 J5 P5 hq
    refine xG_aload_n d_RF_ship_44 rfl rfl rfl ?_
    refine xG_bipush (v := 48) d_RF_ship_45 rfl ?_
    refine xG_iconst (v := 0) d_RF_ship_47 rfl ?_
    obtain ⟨Q6, hM, h⟩ := h
    refine xG_callv (as := [xi 48, xi 0]) (rest := []) d_RF_ship_48 yv_RF_close w5_66 rfl rfl rfl s0_250 (by decide) rfl hM ⟨by decide, by decide⟩ (Nat.le_of_ble_eq_true rfl) ⟨Nat.zero_le _, Nat.zero_le _⟩ (fun r S6 I6 J6 P6 hp => ?_)
    obtain ⟨rfl, hL6, rfl, hq⟩ := hp
    have h := h I6 J6 P6 hq
    refine xG_aload_n d_RF_ship_51 rfl rfl rfl ?_
    refine xG_geti d_RF_ship_52 xf_RF_299 rfl s0_250 ?_
    refine xG_iconst (v := 1) d_RF_ship_55 rfl ?_
    refine xG_isub d_RF_ship_56 ?_
    refine xG_istore_n (lv' := [(2, xi ((I6 250 44) - 1)), (1, xi (I 250 44)), (0, xq (some 250))]) d_RF_ship_57 rfl (Nat.le_of_ble_eq_true rfl) rfl ?_
    refine xG_pick [2, 1, 0] rfl ?_
    exact h
set_option maxRecDepth 20000 in
theorem b_RF_ship_58 {l : Launch} {V : xV} {Q : xIt → xJt → xPt → Prop} {I : xIt} {J : xJt} {P : xPt} (hL : xL P) {v1 : Int32} {v2 : Int32} (h : ((v2 < 0 → Q (xu I 250 44 0) J P) ∧ (¬ v2 < 0 → (vp_in v2 256 ∧ (vp_in (I 250 42) 2048 ∧ G_RF_ship l V Q 58 [(0, xq (some 250)), (1, xi v1), (2, xi (v2 + (-1)))] [] (xu (xu I 271 ((I 250 42).toNatClampNeg) (I 272 v2.toNatClampNeg)) 250 42 ((I 250 42) + 1)) J P))))) : G_RF_ship l V Q 58 [(0, xq (some 250)), (1, xi v1), (2, xi v2)] [] I J P := by
  refine xG_iload_n d_RF_ship_58 rfl rfl ?_
  refine xG_if_lt (tgt := 93) d_RF_ship_59 (by decide) (fun c => ?_) (fun c => ?_)
  · have h := h.1 c
    refine xG_aload_n d_RF_ship_93 rfl rfl rfl ?_
    refine xG_iconst (v := 0) d_RF_ship_94 rfl ?_
    refine xG_puti d_RF_ship_95 xf_RF_299 (Or.inl rfl) rfl s0_250 rfl rfl ?_
    exact xG_return d_RF_ship_98 rfl ⟨rfl, hL, rfl, h⟩
  · have h := h.2 c
    refine xG_aload_n d_RF_ship_62 rfl rfl rfl ?_
    refine xG_getq d_RF_ship_63 xf_RF_74 rfl s0_250 ?_
    refine xG_aload_n d_RF_ship_66 rfl rfl rfl ?_
    refine xG_geti d_RF_ship_67 xf_RF_308 rfl s0_250 ?_
    refine xG_aload_n d_RF_ship_70 rfl rfl rfl ?_
    refine xG_getq d_RF_ship_71 xf_RF_77 rfl s0_250 ?_
    refine xG_iload_n d_RF_ship_74 rfl rfl ?_
    refine xG_iald d_RF_ship_75 (lp_250_45 hL) s0_272 h.1 ?_
    have h := h.2
    refine xG_iast d_RF_ship_76 (lp_250_43 hL) s0_271 h.1 ?_
    have h := h.2
    refine xG_aload_n d_RF_ship_77 rfl rfl rfl ?_
    refine xG_dup d_RF_ship_78 rfl ?_
    refine xG_geti d_RF_ship_79 xf_RF_308 rfl s0_250 ?_
    refine xG_topi (x' := I 250 42) (by first | rfl | exact xu_at | simp [xu]) ?_
    refine xG_iconst (v := 1) d_RF_ship_82 rfl ?_
    refine xG_iadd d_RF_ship_83 ?_
    refine xG_puti d_RF_ship_84 xf_RF_308 (Or.inl rfl) rfl s0_250 rfl rfl ?_
    refine xG_iinc (v := v2 + (-1)) (lv' := [(2, xi (v2 + (-1))), (0, xq (some 250)), (1, xi v1)]) d_RF_ship_87 rfl rfl (Nat.le_of_ble_eq_true rfl) rfl ?_
    refine xG_goto (tgt := 58) d_RF_ship_90 (by decide) ?_
    refine xG_pick [1, 2, 0] rfl ?_
    exact h
theorem e_RF_ship {l : Launch} {V : xV} {Q : xIt → xJt → xPt → Prop} {I : xIt} {J : xJt} {P : xPt}  (h : G_RF_ship l V Q 0 [(0, xq (some 250))] [] I J P) : xMet l V y_RF_ship 3 0 0 [xq (some 250)] xS0 I J P (xPv Q) := xMet_of (by decide) (Nat.le_of_ble_eq_true rfl) h

abbrev G_RF_answer (l : Launch) (V : xV) (Q : xIt → xJt → xPt → Prop) (pc : Nat) (lv : List (Nat × xX)) (st : List xX) (I : xIt) (J : xJt) (P : xPt) : Prop := xG l V y_RF_answer (xR 4 0 0) (xFn V y_RF_answer (xR 4 0 0) (xPv Q)) pc lv st xS0 I J P (0, 0)
set_option maxRecDepth 20000 in
theorem b_RF_answer_0 {l : Launch} {V : xV} {Q : xIt → xJt → xPt → Prop} {I : xIt} {J : xJt} {P : xPt} (hL : xL P) {v1 : Int32} {v2 : Int32} (h : (∃ Q1 : xIt → xJt → xPt → Prop, xMet l V y_RF_put 1 0 0 [xq (some 250), xi 0] xS0 (xu (xu I 250 46 v2) 250 44 0) J P (xPv Q1) ∧ ∀ (I1 : xIt) (J1 : xJt) (P1 : xPt), Q1 I1 J1 P1 → (∃ Q2 : xIt → xJt → xPt → Prop, xMet l V y_RF_put 1 0 0 [xq (some 250), xi 4] xS0 I1 J1 P1 (xPv Q2) ∧ ∀ (I2 : xIt) (J2 : xJt) (P2 : xPt), Q2 I2 J2 P2 → (∃ Q3 : xIt → xJt → xPt → Prop, xMet l V y_RF_put 1 0 0 [xq (some 250), xi 0] xS0 I2 J2 P2 (xPv Q3) ∧ ∀ (I3 : xIt) (J3 : xJt) (P3 : xPt), Q3 I3 J3 P3 → (∃ Q4 : xIt → xJt → xPt → Prop, xMet l V y_RF_put 1 0 0 [xq (some 250), xi 4] xS0 I3 J3 P3 (xPv Q4) ∧ ∀ (I4 : xIt) (J4 : xJt) (P4 : xPt), Q4 I4 J4 P4 → (∃ Q5 : xIt → xJt → xPt → Prop, xMet l V y_RF_put 1 0 0 [xq (some 250), xi v2] xS0 I4 J4 P4 (xPv Q5) ∧ ∀ (I5 : xIt) (J5 : xJt) (P5 : xPt), Q5 I5 J5 P5 → (∃ Q6 : xIt → xJt → xPt → Prop, xMet l V y_RF_put 1 0 0 [xq (some 250), xi 1] xS0 I5 J5 P5 (xPv Q6) ∧ ∀ (I6 : xIt) (J6 : xJt) (P6 : xPt), Q6 I6 J6 P6 → (∃ Q7 : xIt → xJt → xPt → Prop, xMet l V y_RF_put 1 0 0 [xq (some 250), xi 10] xS0 I6 J6 P6 (xPv Q7) ∧ ∀ (I7 : xIt) (J7 : xJt) (P7 : xPt), Q7 I7 J7 P7 → (∃ Q8 : xIt → xJt → xPt → Prop, xMet l V y_RF_close 2 0 0 [xq (some 250), xi v1, xi 0] xS0 I7 J7 P7 (xPv Q8) ∧ ∀ (I8 : xIt) (J8 : xJt) (P8 : xPt), Q8 I8 J8 P8 → (∃ Q9 : xIt → xJt → xPt → Prop, xMet l V y_RF_ship 3 0 0 [xq (some 250)] xS0 I8 J8 P8 (xPv Q9) ∧ ∀ (I9 : xIt) (J9 : xJt) (P9 : xPt), Q9 I9 J9 P9 → Q I9 J9 P9)))))))))) : G_RF_answer l V Q 0 [(0, xq (some 250)), (1, xi v1), (2, xi v2)] [] I J P := by
  refine xG_aload_n d_RF_answer_0 rfl rfl rfl ?_
  refine xG_iload_n d_RF_answer_1 rfl rfl ?_
  refine xG_puti d_RF_answer_2 xf_RF_80 (Or.inl rfl) rfl s0_250 rfl rfl ?_
  refine xG_aload_n d_RF_answer_5 rfl rfl rfl ?_
  refine xG_iconst (v := 0) d_RF_answer_6 rfl ?_
  refine xG_puti d_RF_answer_7 xf_RF_299 (Or.inl rfl) rfl s0_250 rfl rfl ?_
  refine xG_aload_n d_RF_answer_10 rfl rfl rfl ?_
  refine xG_iconst (v := 0) d_RF_answer_11 rfl ?_
  obtain ⟨Q1, hM, h⟩ := h
  refine xG_callv (as := [xi 0]) (rest := []) d_RF_answer_12 yv_RF_put w5_62 rfl rfl rfl s0_250 (by decide) rfl hM ⟨by decide, by decide⟩ (Nat.le_of_ble_eq_true rfl) ⟨Nat.zero_le _, Nat.zero_le _⟩ (fun r S1 I1 J1 P1 hp => ?_)
  obtain ⟨rfl, hL1, rfl, hq⟩ := hp
  have h := h I1 J1 P1 hq
  refine xG_aload_n d_RF_answer_15 rfl rfl rfl ?_
  refine xG_iconst (v := 4) d_RF_answer_16 rfl ?_
  obtain ⟨Q2, hM, h⟩ := h
  refine xG_callv (as := [xi 4]) (rest := []) d_RF_answer_17 yv_RF_put w5_62 rfl rfl rfl s0_250 (by decide) rfl hM ⟨by decide, by decide⟩ (Nat.le_of_ble_eq_true rfl) ⟨Nat.zero_le _, Nat.zero_le _⟩ (fun r S2 I2 J2 P2 hp => ?_)
  obtain ⟨rfl, hL2, rfl, hq⟩ := hp
  have h := h I2 J2 P2 hq
  refine xG_aload_n d_RF_answer_20 rfl rfl rfl ?_
  refine xG_iconst (v := 0) d_RF_answer_21 rfl ?_
  obtain ⟨Q3, hM, h⟩ := h
  refine xG_callv (as := [xi 0]) (rest := []) d_RF_answer_22 yv_RF_put w5_62 rfl rfl rfl s0_250 (by decide) rfl hM ⟨by decide, by decide⟩ (Nat.le_of_ble_eq_true rfl) ⟨Nat.zero_le _, Nat.zero_le _⟩ (fun r S3 I3 J3 P3 hp => ?_)
  obtain ⟨rfl, hL3, rfl, hq⟩ := hp
  have h := h I3 J3 P3 hq
  refine xG_aload_n d_RF_answer_25 rfl rfl rfl ?_
  refine xG_iconst (v := 4) d_RF_answer_26 rfl ?_
  obtain ⟨Q4, hM, h⟩ := h
  refine xG_callv (as := [xi 4]) (rest := []) d_RF_answer_27 yv_RF_put w5_62 rfl rfl rfl s0_250 (by decide) rfl hM ⟨by decide, by decide⟩ (Nat.le_of_ble_eq_true rfl) ⟨Nat.zero_le _, Nat.zero_le _⟩ (fun r S4 I4 J4 P4 hp => ?_)
  obtain ⟨rfl, hL4, rfl, hq⟩ := hp
  have h := h I4 J4 P4 hq
  refine xG_aload_n d_RF_answer_30 rfl rfl rfl ?_
  refine xG_iload_n d_RF_answer_31 rfl rfl ?_
  obtain ⟨Q5, hM, h⟩ := h
  refine xG_callv (as := [xi v2]) (rest := []) d_RF_answer_32 yv_RF_put w5_62 rfl rfl rfl s0_250 (by decide) rfl hM ⟨by decide, by decide⟩ (Nat.le_of_ble_eq_true rfl) ⟨Nat.zero_le _, Nat.zero_le _⟩ (fun r S5 I5 J5 P5 hp => ?_)
  obtain ⟨rfl, hL5, rfl, hq⟩ := hp
  have h := h I5 J5 P5 hq
  refine xG_aload_n d_RF_answer_35 rfl rfl rfl ?_
  refine xG_iconst (v := 1) d_RF_answer_36 rfl ?_
  obtain ⟨Q6, hM, h⟩ := h
  refine xG_callv (as := [xi 1]) (rest := []) d_RF_answer_37 yv_RF_put w5_62 rfl rfl rfl s0_250 (by decide) rfl hM ⟨by decide, by decide⟩ (Nat.le_of_ble_eq_true rfl) ⟨Nat.zero_le _, Nat.zero_le _⟩ (fun r S6 I6 J6 P6 hp => ?_)
  obtain ⟨rfl, hL6, rfl, hq⟩ := hp
  have h := h I6 J6 P6 hq
  refine xG_aload_n d_RF_answer_40 rfl rfl rfl ?_
  refine xG_bipush (v := 10) d_RF_answer_41 rfl ?_
  obtain ⟨Q7, hM, h⟩ := h
  refine xG_callv (as := [xi 10]) (rest := []) d_RF_answer_43 yv_RF_put w5_62 rfl rfl rfl s0_250 (by decide) rfl hM ⟨by decide, by decide⟩ (Nat.le_of_ble_eq_true rfl) ⟨Nat.zero_le _, Nat.zero_le _⟩ (fun r S7 I7 J7 P7 hp => ?_)
  obtain ⟨rfl, hL7, rfl, hq⟩ := hp
  have h := h I7 J7 P7 hq
  refine xG_aload_n d_RF_answer_46 rfl rfl rfl ?_
  refine xG_iload_n d_RF_answer_47 rfl rfl ?_
  refine xG_iconst (v := 0) d_RF_answer_48 rfl ?_
  obtain ⟨Q8, hM, h⟩ := h
  refine xG_callv (as := [xi v1, xi 0]) (rest := []) d_RF_answer_49 yv_RF_close w5_66 rfl rfl rfl s0_250 (by decide) rfl hM ⟨by decide, by decide⟩ (Nat.le_of_ble_eq_true rfl) ⟨Nat.zero_le _, Nat.zero_le _⟩ (fun r S8 I8 J8 P8 hp => ?_)
  obtain ⟨rfl, hL8, rfl, hq⟩ := hp
  have h := h I8 J8 P8 hq
  refine xG_aload_n d_RF_answer_52 rfl rfl rfl ?_
  obtain ⟨Q9, hM, h⟩ := h
  refine xG_callv (as := []) (rest := []) d_RF_answer_53 yv_RF_ship w5_70 rfl rfl rfl s0_250 (by decide) rfl hM ⟨by decide, by decide⟩ (Nat.le_of_ble_eq_true rfl) ⟨Nat.zero_le _, Nat.zero_le _⟩ (fun r S9 I9 J9 P9 hp => ?_)
  obtain ⟨rfl, hL9, rfl, hq⟩ := hp
  have h := h I9 J9 P9 hq
  exact xG_return d_RF_answer_56 rfl ⟨rfl, hL9, rfl, h⟩
theorem e_RF_answer {l : Launch} {V : xV} {Q : xIt → xJt → xPt → Prop} {I : xIt} {J : xJt} {P : xPt} {v1 : Int32} {v2 : Int32} (h : G_RF_answer l V Q 0 [(0, xq (some 250)), (1, xi v1), (2, xi v2)] [] I J P) : xMet l V y_RF_answer 4 0 0 [xq (some 250), xi v1, xi v2] xS0 I J P (xPv Q) := xMet_of (by decide) (Nat.le_of_ble_eq_true rfl) h

abbrev G_RF_letter (l : Launch) (V : xV) (Q : Int32 → xIt → xJt → xPt → Prop) (pc : Nat) (lv : List (Nat × xX)) (st : List xX) (I : xIt) (J : xJt) (P : xPt) : Prop := xG l V y_RF_letter (xR 1 0 0) (xFn V y_RF_letter (xR 1 0 0) (xPi Q)) pc lv st xS0 I J P (0, 0)
set_option maxRecDepth 20000 in
theorem b_RF_letter_0 {l : Launch} {V : xV} {Q : Int32 → xIt → xJt → xPt → Prop} {I : xIt} {J : xJt} {P : xPt} (hL : xL P) {v0 : Int32} (h : ((¬ v0 = 0 → ((¬ v0 = 1 → ((¬ v0 = 2 → ((¬ v0 = 3 → Q 115 I J P) ∧ (v0 = 3 → Q 105 I J P))) ∧ (v0 = 2 → Q 100 I J P))) ∧ (v0 = 1 → Q 110 I J P))) ∧ (v0 = 0 → Q 111 I J P))) : G_RF_letter l V Q 0 [(0, xi v0)] [] I J P := by
  refine xG_iload_n d_RF_letter_0 rfl rfl ?_
  refine xG_if_ne (tgt := 9) d_RF_letter_1 (by decide) (fun c => ?_) (fun c => ?_)
  · have h := h.1 c
    refine xG_iload_n d_RF_letter_9 rfl rfl ?_
    refine xG_iconst (v := 1) d_RF_letter_10 rfl ?_
    refine xG_icmp_ne (tgt := 19) d_RF_letter_11 (by decide) (fun c => ?_) (fun c => ?_)
    · have h := h.1 c
      refine xG_iload_n d_RF_letter_19 rfl rfl ?_
      refine xG_iconst (v := 2) d_RF_letter_20 rfl ?_
      refine xG_icmp_ne (tgt := 29) d_RF_letter_21 (by decide) (fun c => ?_) (fun c => ?_)
      · have h := h.1 c
        refine xG_iload_n d_RF_letter_29 rfl rfl ?_
        refine xG_iconst (v := 3) d_RF_letter_30 rfl ?_
        refine xG_icmp_ne (tgt := 39) d_RF_letter_31 (by decide) (fun c => ?_) (fun c => ?_)
        · have h := h.1 c
          refine xG_bipush (v := 115) d_RF_letter_39 rfl ?_
          exact xG_ireturn d_RF_letter_41 rfl rfl ⟨rfl, hL, _, rfl, h⟩
        · have h := h.2 c
          refine xG_bipush (v := 105) d_RF_letter_34 rfl ?_
          refine xG_goto (tgt := 41) d_RF_letter_36 (by decide) ?_
          exact xG_ireturn d_RF_letter_41 rfl rfl ⟨rfl, hL, _, rfl, h⟩
      · have h := h.2 c
        refine xG_bipush (v := 100) d_RF_letter_24 rfl ?_
        refine xG_goto (tgt := 41) d_RF_letter_26 (by decide) ?_
        exact xG_ireturn d_RF_letter_41 rfl rfl ⟨rfl, hL, _, rfl, h⟩
    · have h := h.2 c
      refine xG_bipush (v := 110) d_RF_letter_14 rfl ?_
      refine xG_goto (tgt := 41) d_RF_letter_16 (by decide) ?_
      exact xG_ireturn d_RF_letter_41 rfl rfl ⟨rfl, hL, _, rfl, h⟩
  · have h := h.2 c
    refine xG_bipush (v := 111) d_RF_letter_4 rfl ?_
    refine xG_goto (tgt := 41) d_RF_letter_6 (by decide) ?_
    exact xG_ireturn d_RF_letter_41 rfl rfl ⟨rfl, hL, _, rfl, h⟩
theorem e_RF_letter {l : Launch} {V : xV} {Q : Int32 → xIt → xJt → xPt → Prop} {I : xIt} {J : xJt} {P : xPt} {v0 : Int32} (h : G_RF_letter l V Q 0 [(0, xi v0)] [] I J P) : xMet l V y_RF_letter 1 0 0 [xi v0] xS0 I J P (xPi Q) := xMet_of (by decide) (Nat.le_of_ble_eq_true rfl) h

abbrev G_RF_writeAttribute (l : Launch) (V : xV) (Q : xIt → xJt → xPt → Prop) (pc : Nat) (lv : List (Nat × xX)) (st : List xX) (I : xIt) (J : xJt) (P : xPt) : Prop := xG l V y_RF_writeAttribute (xR 3 0 0) (xFn V y_RF_writeAttribute (xR 3 0 0) (xPv Q)) pc lv st xS0 I J P (0, 0)
set_option maxRecDepth 20000 in
theorem b_RF_writeAttribute_0 {l : Launch} {V : xV} {Q : xIt → xJt → xPt → Prop} {I : xIt} {J : xJt} {P : xPt} (hL : xL P) {v1 : Int32} {v2 : Int32} (h : (vp_in ((5 * v1) + v2) 65 ∧ G_RF_writeAttribute l V Q 19 [(0, xq (some 250)), (1, xi v1), (2, xi v2), (3, xi (I 250 44)), (4, xi ((I 258 (((5 * v1) + v2).toNatClampNeg)) - 1))] [] I J P)) : G_RF_writeAttribute l V Q 0 [(0, xq (some 250)), (1, xi v1), (2, xi v2)] [] I J P := by
  refine xG_aload_n d_RF_writeAttribute_0 rfl rfl rfl ?_
  refine xG_geti d_RF_writeAttribute_1 xf_RF_299 rfl s0_250 ?_
  refine xG_istore_n (lv' := [(3, xi (I 250 44)), (0, xq (some 250)), (1, xi v1), (2, xi v2)]) d_RF_writeAttribute_4 rfl (Nat.le_of_ble_eq_true rfl) rfl ?_
  refine xG_aload_n d_RF_writeAttribute_5 rfl rfl rfl ?_
  refine xG_getq d_RF_writeAttribute_6 xf_RF_31 rfl s0_250 ?_
  refine xG_iconst (v := 5) d_RF_writeAttribute_9 rfl ?_
  refine xG_iload_n d_RF_writeAttribute_10 rfl rfl ?_
  refine xG_imul d_RF_writeAttribute_11 ?_
  refine xG_iload_n d_RF_writeAttribute_12 rfl rfl ?_
  refine xG_iadd d_RF_writeAttribute_13 ?_
  refine xG_iald d_RF_writeAttribute_14 (lp_250_28 hL) s0_258 h.1 ?_
  have h := h.2
  refine xG_topi (x' := I 258 (((5 * v1) + v2).toNatClampNeg)) (by first | rfl | exact xu_at | simp [xu]) ?_
  refine xG_iconst (v := 1) d_RF_writeAttribute_15 rfl ?_
  refine xG_isub d_RF_writeAttribute_16 ?_
  refine xG_istore (lv' := [(4, xi ((I 258 (((5 * v1) + v2).toNatClampNeg)) - 1)), (3, xi (I 250 44)), (0, xq (some 250)), (1, xi v1), (2, xi v2)]) d_RF_writeAttribute_17 (Nat.le_of_ble_eq_true rfl) rfl ?_
  refine xG_pick [2, 3, 4, 1, 0] rfl ?_
  exact h
set_option maxRecDepth 20000 in
theorem b_RF_writeAttribute_19 {l : Launch} {V : xV} {Q : xIt → xJt → xPt → Prop} {I : xIt} {J : xJt} {P : xPt} (hL : xL P) {v1 : Int32} {v2 : Int32} {v3 : Int32} {v4 : Int32} (h : ((v4 < 0 → (∃ Q1 : xIt → xJt → xPt → Prop, xMet l V y_RF_close 2 0 0 [xq (some 250), xi 49, xi v3] xS0 I J P (xPv Q1) ∧ ∀ (I1 : xIt) (J1 : xJt) (P1 : xPt), Q1 I1 J1 P1 → (∃ Q2 : Int32 → xIt → xJt → xPt → Prop, xMet l V y_RF_letter 1 0 0 [xi v2] xS0 I1 J1 P1 (xPi Q2) ∧ ∀ (z2 : Int32) (I2 : xIt) (J2 : xJt) (P2 : xPt), Q2 z2 I2 J2 P2 → (∃ Q3 : xIt → xJt → xPt → Prop, xMet l V y_RF_put 1 0 0 [xq (some 250), xi z2] xS0 I2 J2 P2 (xPv Q3) ∧ ∀ (I3 : xIt) (J3 : xJt) (P3 : xPt), Q3 I3 J3 P3 → (∃ Q4 : xIt → xJt → xPt → Prop, xMet l V y_RF_close 2 0 0 [xq (some 250), xi 4, xi (I1 250 44)] xS0 I3 J3 P3 (xPv Q4) ∧ ∀ (I4 : xIt) (J4 : xJt) (P4 : xPt), Q4 I4 J4 P4 → (∃ Q5 : xIt → xJt → xPt → Prop, xMet l V y_RF_close 2 0 0 [xq (some 250), xi 48, xi v3] xS0 I4 J4 P4 (xPv Q5) ∧ ∀ (I5 : xIt) (J5 : xJt) (P5 : xPt), Q5 I5 J5 P5 → Q I5 J5 P5)))))) ∧ (¬ v4 < 0 → (vp_in (((15 * v1) + (3 * v2)) + v4) 195 ∧ G_RF_writeAttribute l V Q 54 [(0, xq (some 250)), (1, xi v1), (2, xi v2), (3, xi v3), (4, xi v4), (5, xi (((15 * v1) + (3 * v2)) + v4)), (6, xi (I 250 44)), (7, xi ((I 259 ((((15 * v1) + (3 * v2)) + v4).toNatClampNeg)) - 1))] [] I J P)))) : G_RF_writeAttribute l V Q 19 [(0, xq (some 250)), (1, xi v1), (2, xi v2), (3, xi v3), (4, xi v4)] [] I J P := by
  refine xG_iload d_RF_writeAttribute_19 rfl ?_
  refine xG_if_lt (tgt := 95) d_RF_writeAttribute_21 (by decide) (fun c => ?_) (fun c => ?_)
  · have h := h.1 c
    refine xG_aload_n d_RF_writeAttribute_95 rfl rfl rfl ?_
    refine xG_bipush (v := 49) d_RF_writeAttribute_96 rfl ?_
    refine xG_iload_n d_RF_writeAttribute_98 rfl rfl ?_
    obtain ⟨Q1, hM, h⟩ := h
    refine xG_callv (as := [xi 49, xi v3]) (rest := []) d_RF_writeAttribute_99 yv_RF_close w5_66 rfl rfl rfl s0_250 (by decide) rfl hM ⟨by decide, by decide⟩ (Nat.le_of_ble_eq_true rfl) ⟨Nat.zero_le _, Nat.zero_le _⟩ (fun r S1 I1 J1 P1 hp => ?_)
    obtain ⟨rfl, hL1, rfl, hq⟩ := hp
    have h := h I1 J1 P1 hq
    refine xG_aload_n d_RF_writeAttribute_102 rfl rfl rfl ?_
    refine xG_geti d_RF_writeAttribute_103 xf_RF_299 rfl s0_250 ?_
    refine xG_istore (lv' := [(4, xi (I1 250 44)), (0, xq (some 250)), (1, xi v1), (2, xi v2), (3, xi v3)]) d_RF_writeAttribute_106 (Nat.le_of_ble_eq_true rfl) rfl ?_
    refine xG_aload_n d_RF_writeAttribute_108 rfl rfl rfl ?_
    refine xG_iload_n d_RF_writeAttribute_109 rfl rfl ?_
    obtain ⟨Q2, hM, h⟩ := h
    refine xG_calls (as := [xi v2]) (rest := [xq (some 250)]) d_RF_writeAttribute_110 ys_RF_letter w5_185 rfl rfl hM ⟨by decide, by decide⟩ (Nat.le_of_ble_eq_true rfl) ⟨Nat.zero_le _, Nat.zero_le _⟩ (fun r S2 I2 J2 P2 hp => ?_)
    obtain ⟨rfl, hL2, z2, rfl, hq⟩ := hp
    have h := h z2 I2 J2 P2 hq
    obtain ⟨Q3, hM, h⟩ := h
    refine xG_callv (as := [xi z2]) (rest := []) d_RF_writeAttribute_113 yv_RF_put w5_62 rfl rfl rfl s0_250 (by decide) rfl hM ⟨by decide, by decide⟩ (Nat.le_of_ble_eq_true rfl) ⟨Nat.zero_le _, Nat.zero_le _⟩ (fun r S3 I3 J3 P3 hp => ?_)
    obtain ⟨rfl, hL3, rfl, hq⟩ := hp
    have h := h I3 J3 P3 hq
    refine xG_aload_n d_RF_writeAttribute_116 rfl rfl rfl ?_
    refine xG_iconst (v := 4) d_RF_writeAttribute_117 rfl ?_
    refine xG_iload d_RF_writeAttribute_118 rfl ?_
    obtain ⟨Q4, hM, h⟩ := h
    refine xG_callv (as := [xi 4, xi (I1 250 44)]) (rest := []) d_RF_writeAttribute_120 yv_RF_close w5_66 rfl rfl rfl s0_250 (by decide) rfl hM ⟨by decide, by decide⟩ (Nat.le_of_ble_eq_true rfl) ⟨Nat.zero_le _, Nat.zero_le _⟩ (fun r S4 I4 J4 P4 hp => ?_)
    obtain ⟨rfl, hL4, rfl, hq⟩ := hp
    have h := h I4 J4 P4 hq
    refine xG_aload_n d_RF_writeAttribute_123 rfl rfl rfl ?_
    refine xG_bipush (v := 48) d_RF_writeAttribute_124 rfl ?_
    refine xG_iload_n d_RF_writeAttribute_126 rfl rfl ?_
    obtain ⟨Q5, hM, h⟩ := h
    refine xG_callv (as := [xi 48, xi v3]) (rest := []) d_RF_writeAttribute_127 yv_RF_close w5_66 rfl rfl rfl s0_250 (by decide) rfl hM ⟨by decide, by decide⟩ (Nat.le_of_ble_eq_true rfl) ⟨Nat.zero_le _, Nat.zero_le _⟩ (fun r S5 I5 J5 P5 hp => ?_)
    obtain ⟨rfl, hL5, rfl, hq⟩ := hp
    have h := h I5 J5 P5 hq
    exact xG_return d_RF_writeAttribute_130 rfl ⟨rfl, hL5, rfl, h⟩
  · have h := h.2 c
    refine xG_bipush (v := 15) d_RF_writeAttribute_24 rfl ?_
    refine xG_iload_n d_RF_writeAttribute_26 rfl rfl ?_
    refine xG_imul d_RF_writeAttribute_27 ?_
    refine xG_iconst (v := 3) d_RF_writeAttribute_28 rfl ?_
    refine xG_iload_n d_RF_writeAttribute_29 rfl rfl ?_
    refine xG_imul d_RF_writeAttribute_30 ?_
    refine xG_iadd d_RF_writeAttribute_31 ?_
    refine xG_iload d_RF_writeAttribute_32 rfl ?_
    refine xG_iadd d_RF_writeAttribute_34 ?_
    refine xG_istore (lv' := [(5, xi (((15 * v1) + (3 * v2)) + v4)), (0, xq (some 250)), (1, xi v1), (2, xi v2), (3, xi v3), (4, xi v4)]) d_RF_writeAttribute_35 (Nat.le_of_ble_eq_true rfl) rfl ?_
    refine xG_aload_n d_RF_writeAttribute_37 rfl rfl rfl ?_
    refine xG_geti d_RF_writeAttribute_38 xf_RF_299 rfl s0_250 ?_
    refine xG_istore (lv' := [(6, xi (I 250 44)), (5, xi (((15 * v1) + (3 * v2)) + v4)), (0, xq (some 250)), (1, xi v1), (2, xi v2), (3, xi v3), (4, xi v4)]) d_RF_writeAttribute_41 (Nat.le_of_ble_eq_true rfl) rfl ?_
    refine xG_aload_n d_RF_writeAttribute_43 rfl rfl rfl ?_
    refine xG_getq d_RF_writeAttribute_44 xf_RF_34 rfl s0_250 ?_
    refine xG_iload d_RF_writeAttribute_47 rfl ?_
    refine xG_iald d_RF_writeAttribute_49 (lp_250_29 hL) s0_259 h.1 ?_
    have h := h.2
    refine xG_topi (x' := I 259 ((((15 * v1) + (3 * v2)) + v4).toNatClampNeg)) (by first | rfl | exact xu_at | simp [xu]) ?_
    refine xG_iconst (v := 1) d_RF_writeAttribute_50 rfl ?_
    refine xG_isub d_RF_writeAttribute_51 ?_
    refine xG_istore (lv' := [(7, xi ((I 259 ((((15 * v1) + (3 * v2)) + v4).toNatClampNeg)) - 1)), (6, xi (I 250 44)), (5, xi (((15 * v1) + (3 * v2)) + v4)), (0, xq (some 250)), (1, xi v1), (2, xi v2), (3, xi v3), (4, xi v4)]) d_RF_writeAttribute_52 (Nat.le_of_ble_eq_true rfl) rfl ?_
    refine xG_pick [3, 4, 5, 6, 7, 2, 1, 0] rfl ?_
    exact h
set_option maxRecDepth 20000 in
theorem b_RF_writeAttribute_54 {l : Launch} {V : xV} {Q : xIt → xJt → xPt → Prop} {I : xIt} {J : xJt} {P : xPt} (hL : xL P) {v1 : Int32} {v2 : Int32} {v3 : Int32} {v4 : Int32} {v5 : Int32} {v6 : Int32} {v7 : Int32} (h : ((v7 < 0 → (∃ Q1 : xIt → xJt → xPt → Prop, xMet l V y_RF_close 2 0 0 [xq (some 250), xi 4, xi v6] xS0 I J P (xPv Q1) ∧ ∀ (I1 : xIt) (J1 : xJt) (P1 : xPt), Q1 I1 J1 P1 → G_RF_writeAttribute l V Q 19 [(0, xq (some 250)), (1, xi v1), (2, xi v2), (3, xi v3), (4, xi (v4 + (-1)))] [] I1 J1 P1)) ∧ (¬ v7 < 0 → (vp_in ((6 * v5) + v7) 1170 ∧ (∃ Q2 : xIt → xJt → xPt → Prop, xMet l V y_RF_put 1 0 0 [xq (some 250), xi (I 260 (((6 * v5) + v7).toNatClampNeg))] xS0 I J P (xPv Q2) ∧ ∀ (I2 : xIt) (J2 : xJt) (P2 : xPt), Q2 I2 J2 P2 → G_RF_writeAttribute l V Q 54 [(0, xq (some 250)), (1, xi v1), (2, xi v2), (3, xi v3), (4, xi v4), (5, xi v5), (6, xi v6), (7, xi (v7 + (-1)))] [] I2 J2 P2))))) : G_RF_writeAttribute l V Q 54 [(0, xq (some 250)), (1, xi v1), (2, xi v2), (3, xi v3), (4, xi v4), (5, xi v5), (6, xi v6), (7, xi v7)] [] I J P := by
  refine xG_iload d_RF_writeAttribute_54 rfl ?_
  refine xG_if_lt (tgt := 82) d_RF_writeAttribute_56 (by decide) (fun c => ?_) (fun c => ?_)
  · have h := h.1 c
    refine xG_aload_n d_RF_writeAttribute_82 rfl rfl rfl ?_
    refine xG_iconst (v := 4) d_RF_writeAttribute_83 rfl ?_
    refine xG_iload d_RF_writeAttribute_84 rfl ?_
    obtain ⟨Q1, hM, h⟩ := h
    refine xG_callv (as := [xi 4, xi v6]) (rest := []) d_RF_writeAttribute_86 yv_RF_close w5_66 rfl rfl rfl s0_250 (by decide) rfl hM ⟨by decide, by decide⟩ (Nat.le_of_ble_eq_true rfl) ⟨Nat.zero_le _, Nat.zero_le _⟩ (fun r S1 I1 J1 P1 hp => ?_)
    obtain ⟨rfl, hL1, rfl, hq⟩ := hp
    have h := h I1 J1 P1 hq
    refine xG_iinc (v := v4 + (-1)) (lv' := [(4, xi (v4 + (-1))), (0, xq (some 250)), (1, xi v1), (2, xi v2), (3, xi v3), (5, xi v5), (6, xi v6), (7, xi v7)]) d_RF_writeAttribute_89 rfl rfl (Nat.le_of_ble_eq_true rfl) rfl ?_
    refine xG_goto (tgt := 19) d_RF_writeAttribute_92 (by decide) ?_
    refine xG_pick [1, 2, 3, 4, 0] rfl ?_
    exact h
  · have h := h.2 c
    refine xG_aload_n d_RF_writeAttribute_59 rfl rfl rfl ?_
    refine xG_aload_n d_RF_writeAttribute_60 rfl rfl rfl ?_
    refine xG_getq d_RF_writeAttribute_61 xf_RF_37 rfl s0_250 ?_
    refine xG_bipush (v := 6) d_RF_writeAttribute_64 rfl ?_
    refine xG_iload d_RF_writeAttribute_66 rfl ?_
    refine xG_imul d_RF_writeAttribute_68 ?_
    refine xG_iload d_RF_writeAttribute_69 rfl ?_
    refine xG_iadd d_RF_writeAttribute_71 ?_
    refine xG_iald d_RF_writeAttribute_72 (lp_250_30 hL) s0_260 h.1 ?_
    have h := h.2
    refine xG_topi (x' := I 260 (((6 * v5) + v7).toNatClampNeg)) (by first | rfl | exact xu_at | simp [xu]) ?_
    obtain ⟨Q2, hM, h⟩ := h
    refine xG_callv (as := [xi (I 260 (((6 * v5) + v7).toNatClampNeg))]) (rest := []) d_RF_writeAttribute_73 yv_RF_put w5_62 rfl rfl rfl s0_250 (by decide) rfl hM ⟨by decide, by decide⟩ (Nat.le_of_ble_eq_true rfl) ⟨Nat.zero_le _, Nat.zero_le _⟩ (fun r S2 I2 J2 P2 hp => ?_)
    obtain ⟨rfl, hL2, rfl, hq⟩ := hp
    have h := h I2 J2 P2 hq
    refine xG_iinc (v := v7 + (-1)) (lv' := [(7, xi (v7 + (-1))), (0, xq (some 250)), (1, xi v1), (2, xi v2), (3, xi v3), (4, xi v4), (5, xi v5), (6, xi v6)]) d_RF_writeAttribute_76 rfl rfl (Nat.le_of_ble_eq_true rfl) rfl ?_
    refine xG_goto (tgt := 54) d_RF_writeAttribute_79 (by decide) ?_
    refine xG_pick [1, 2, 3, 4, 5, 6, 7, 0] rfl ?_
    exact h
theorem e_RF_writeAttribute {l : Launch} {V : xV} {Q : xIt → xJt → xPt → Prop} {I : xIt} {J : xJt} {P : xPt} {v1 : Int32} {v2 : Int32} (h : G_RF_writeAttribute l V Q 0 [(0, xq (some 250)), (1, xi v1), (2, xi v2)] [] I J P) : xMet l V y_RF_writeAttribute 3 0 0 [xq (some 250), xi v1, xi v2] xS0 I J P (xPv Q) := xMet_of (by decide) (Nat.le_of_ble_eq_true rfl) h

abbrev G_RF_writeName (l : Launch) (V : xV) (Q : xIt → xJt → xPt → Prop) (pc : Nat) (lv : List (Nat × xX)) (st : List xX) (I : xIt) (J : xJt) (P : xPt) : Prop := xG l V y_RF_writeName (xR 2 0 0) (xFn V y_RF_writeName (xR 2 0 0) (xPv Q)) pc lv st xS0 I J P (0, 0)
set_option maxRecDepth 20000 in
theorem b_RF_writeName_0 {l : Launch} {V : xV} {Q : xIt → xJt → xPt → Prop} {I : xIt} {J : xJt} {P : xPt} (hL : xL P) {v1 : Int32} (h : G_RF_writeName l V Q 4 [(0, xq (some 250)), (1, xi v1), (2, xi 0), (3, xi v1)] [] I J P) : G_RF_writeName l V Q 0 [(0, xq (some 250)), (1, xi v1)] [] I J P := by
  refine xG_iconst (v := 0) d_RF_writeName_0 rfl ?_
  refine xG_istore_n (lv' := [(2, xi 0), (0, xq (some 250)), (1, xi v1)]) d_RF_writeName_1 rfl (Nat.le_of_ble_eq_true rfl) rfl ?_
  refine xG_iload_n d_RF_writeName_2 rfl rfl ?_
  refine xG_istore_n (lv' := [(3, xi v1), (2, xi 0), (0, xq (some 250)), (1, xi v1)]) d_RF_writeName_3 rfl (Nat.le_of_ble_eq_true rfl) rfl ?_
  refine xG_pick [2, 3, 1, 0] rfl ?_
  exact h
set_option maxRecDepth 20000 in
theorem b_RF_writeName_4 {l : Launch} {V : xV} {Q : xIt → xJt → xPt → Prop} {I : xIt} {J : xJt} {P : xPt} (hL : xL P) {v1 : Int32} {v2 : Int32} {v3 : Int32} (h : ((v3 < 0 → G_RF_writeName l V Q 25 [(0, xq (some 250)), (1, xi v1), (2, xi v2), (3, xi (v2 - 1))] [] I J P) ∧ (¬ v3 < 0 → (vp_in v3 13 ∧ G_RF_writeName l V Q 4 [(0, xq (some 250)), (1, xi v1), (2, xi (v2 + 1)), (3, xi (I 263 v3.toNatClampNeg))] [] I J P)))) : G_RF_writeName l V Q 4 [(0, xq (some 250)), (1, xi v1), (2, xi v2), (3, xi v3)] [] I J P := by
  refine xG_iload_n d_RF_writeName_4 rfl rfl ?_
  refine xG_if_lt (tgt := 21) d_RF_writeName_5 (by decide) (fun c => ?_) (fun c => ?_)
  · have h := h.1 c
    refine xG_iload_n d_RF_writeName_21 rfl rfl ?_
    refine xG_iconst (v := 1) d_RF_writeName_22 rfl ?_
    refine xG_isub d_RF_writeName_23 ?_
    refine xG_istore_n (lv' := [(3, xi (v2 - 1)), (0, xq (some 250)), (1, xi v1), (2, xi v2)]) d_RF_writeName_24 rfl (Nat.le_of_ble_eq_true rfl) rfl ?_
    refine xG_pick [1, 2, 3, 0] rfl ?_
    exact h
  · have h := h.2 c
    refine xG_iinc (v := v2 + 1) (lv' := [(2, xi (v2 + 1)), (0, xq (some 250)), (1, xi v1), (3, xi v3)]) d_RF_writeName_8 rfl rfl (Nat.le_of_ble_eq_true rfl) rfl ?_
    refine xG_aload_n d_RF_writeName_11 rfl rfl rfl ?_
    refine xG_getq d_RF_writeName_12 xf_RF_46 rfl s0_250 ?_
    refine xG_iload_n d_RF_writeName_15 rfl rfl ?_
    refine xG_iald d_RF_writeName_16 (lp_250_33 hL) s0_263 h.1 ?_
    have h := h.2
    refine xG_istore_n (lv' := [(3, xi (I 263 v3.toNatClampNeg)), (2, xi (v2 + 1)), (0, xq (some 250)), (1, xi v1)]) d_RF_writeName_17 rfl (Nat.le_of_ble_eq_true rfl) rfl ?_
    refine xG_goto (tgt := 4) d_RF_writeName_18 (by decide) ?_
    refine xG_pick [2, 3, 1, 0] rfl ?_
    exact h
set_option maxRecDepth 20000 in
theorem b_RF_writeName_25 {l : Launch} {V : xV} {Q : xIt → xJt → xPt → Prop} {I : xIt} {J : xJt} {P : xPt} (hL : xL P) {v1 : Int32} {v2 : Int32} {v3 : Int32} (h : ((v3 < 0 → Q I J P) ∧ (¬ v3 < 0 → G_RF_writeName l V Q 35 [(0, xq (some 250)), (1, xi v1), (2, xi v2), (3, xi v3), (4, xi v1), (5, xi 0)] [] I J P))) : G_RF_writeName l V Q 25 [(0, xq (some 250)), (1, xi v1), (2, xi v2), (3, xi v3)] [] I J P := by
  refine xG_iload_n d_RF_writeName_25 rfl rfl ?_
  refine xG_if_lt (tgt := 162) d_RF_writeName_26 (by decide) (fun c => ?_) (fun c => ?_)
  · have h := h.1 c
    exact xG_return d_RF_writeName_162 rfl ⟨rfl, hL, rfl, h⟩
  · have h := h.2 c
    refine xG_iload_n d_RF_writeName_29 rfl rfl ?_
    refine xG_istore (lv' := [(4, xi v1), (0, xq (some 250)), (1, xi v1), (2, xi v2), (3, xi v3)]) d_RF_writeName_30 (Nat.le_of_ble_eq_true rfl) rfl ?_
    refine xG_iconst (v := 0) d_RF_writeName_32 rfl ?_
    refine xG_istore (lv' := [(5, xi 0), (4, xi v1), (0, xq (some 250)), (1, xi v1), (2, xi v2), (3, xi v3)]) d_RF_writeName_33 (Nat.le_of_ble_eq_true rfl) rfl ?_
    refine xG_pick [2, 3, 4, 5, 1, 0] rfl ?_
    exact h
set_option maxRecDepth 20000 in
theorem b_RF_writeName_35 {l : Launch} {V : xV} {Q : xIt → xJt → xPt → Prop} {I : xIt} {J : xJt} {P : xPt} (hL : xL P) {v1 : Int32} {v2 : Int32} {v3 : Int32} {v4 : Int32} {v5 : Int32} (h : ((v3 ≤ v5 → (vp_in v4 13 ∧ G_RF_writeName l V Q 67 [(0, xq (some 250)), (1, xi v1), (2, xi v2), (3, xi v3), (4, xi v4), (5, xi ((I 265 v4.toNatClampNeg) - 1))] [] I J P)) ∧ (¬ v3 ≤ v5 → (vp_in v4 13 ∧ G_RF_writeName l V Q 35 [(0, xq (some 250)), (1, xi v1), (2, xi v2), (3, xi v3), (4, xi (I 263 v4.toNatClampNeg)), (5, xi (v5 + 1))] [] I J P)))) : G_RF_writeName l V Q 35 [(0, xq (some 250)), (1, xi v1), (2, xi v2), (3, xi v3), (4, xi v4), (5, xi v5)] [] I J P := by
  refine xG_iload d_RF_writeName_35 rfl ?_
  refine xG_iload_n d_RF_writeName_37 rfl rfl ?_
  refine xG_icmp_ge (tgt := 56) d_RF_writeName_38 (by decide) (fun c => ?_) (fun c => ?_)
  · have h := h.1 c
    refine xG_aload_n d_RF_writeName_56 rfl rfl rfl ?_
    refine xG_getq d_RF_writeName_57 xf_RF_52 rfl s0_250 ?_
    refine xG_iload d_RF_writeName_60 rfl ?_
    refine xG_iald d_RF_writeName_62 (lp_250_35 hL) s0_265 h.1 ?_
    have h := h.2
    refine xG_iconst (v := 1) d_RF_writeName_63 rfl ?_
    refine xG_isub d_RF_writeName_64 ?_
    refine xG_istore (lv' := [(5, xi ((I 265 v4.toNatClampNeg) - 1)), (0, xq (some 250)), (1, xi v1), (2, xi v2), (3, xi v3), (4, xi v4)]) d_RF_writeName_65 (Nat.le_of_ble_eq_true rfl) rfl ?_
    refine xG_pick [1, 2, 3, 4, 5, 0] rfl ?_
    exact h
  · have h := h.2 c
    refine xG_aload_n d_RF_writeName_41 rfl rfl rfl ?_
    refine xG_getq d_RF_writeName_42 xf_RF_46 rfl s0_250 ?_
    refine xG_iload d_RF_writeName_45 rfl ?_
    refine xG_iald d_RF_writeName_47 (lp_250_33 hL) s0_263 h.1 ?_
    have h := h.2
    refine xG_istore (lv' := [(4, xi (I 263 v4.toNatClampNeg)), (0, xq (some 250)), (1, xi v1), (2, xi v2), (3, xi v3), (5, xi v5)]) d_RF_writeName_48 (Nat.le_of_ble_eq_true rfl) rfl ?_
    refine xG_iinc (v := v5 + 1) (lv' := [(5, xi (v5 + 1)), (4, xi (I 263 v4.toNatClampNeg)), (0, xq (some 250)), (1, xi v1), (2, xi v2), (3, xi v3)]) d_RF_writeName_50 rfl rfl (Nat.le_of_ble_eq_true rfl) rfl ?_
    refine xG_goto (tgt := 35) d_RF_writeName_53 (by decide) ?_
    refine xG_pick [2, 3, 4, 5, 1, 0] rfl ?_
    exact h
set_option maxRecDepth 20000 in
theorem b_RF_writeName_67 {l : Launch} {V : xV} {Q : xIt → xJt → xPt → Prop} {I : xIt} {J : xJt} {P : xPt} (hL : xL P) {v1 : Int32} {v2 : Int32} {v3 : Int32} {v4 : Int32} {v5 : Int32} (h : ((v5 < 0 → (∃ Q1 : xIt → xJt → xPt → Prop, xMet l V y_RF_put 1 0 0 [xq (some 250), xi 61] xS0 I J P (xPv Q1) ∧ ∀ (I1 : xIt) (J1 : xJt) (P1 : xPt), Q1 I1 J1 P1 → (vp_in v4 13 ∧ (∃ Q2 : Int32 → xIt → xJt → xPt → Prop, xMet l V y_RF_letter 1 0 0 [xi (I1 264 v4.toNatClampNeg)] xS0 I1 J1 P1 (xPi Q2) ∧ ∀ (z2 : Int32) (I2 : xIt) (J2 : xJt) (P2 : xPt), Q2 z2 I2 J2 P2 → (∃ Q3 : xIt → xJt → xPt → Prop, xMet l V y_RF_put 1 0 0 [xq (some 250), xi z2] xS0 I2 J2 P2 (xPv Q3) ∧ ∀ (I3 : xIt) (J3 : xJt) (P3 : xPt), Q3 I3 J3 P3 → ((v3 ≤ 0 → G_RF_writeName l V Q 25 [(0, xq (some 250)), (1, xi v1), (2, xi v2), (3, xi (v3 + (-1)))] [] I3 J3 P3) ∧ (¬ v3 ≤ 0 → (∃ Q4 : xIt → xJt → xPt → Prop, xMet l V y_RF_put 1 0 0 [xq (some 250), xi 44] xS0 I3 J3 P3 (xPv Q4) ∧ ∀ (I4 : xIt) (J4 : xJt) (P4 : xPt), Q4 I4 J4 P4 → G_RF_writeName l V Q 25 [(0, xq (some 250)), (1, xi v1), (2, xi v2), (3, xi (v3 + (-1)))] [] I4 J4 P4)))))))) ∧ (¬ v5 < 0 → (vp_in ((6 * v4) + v5) 78 ∧ (∃ Q5 : xIt → xJt → xPt → Prop, xMet l V y_RF_put 1 0 0 [xq (some 250), xi (I 266 (((6 * v4) + v5).toNatClampNeg))] xS0 I J P (xPv Q5) ∧ ∀ (I5 : xIt) (J5 : xJt) (P5 : xPt), Q5 I5 J5 P5 → (((I 266 (((6 * v4) + v5).toNatClampNeg)) = 44 → (∃ Q6 : xIt → xJt → xPt → Prop, xMet l V y_RF_put 1 0 0 [xq (some 250), xi 92] xS0 I5 J5 P5 (xPv Q6) ∧ ∀ (I6 : xIt) (J6 : xJt) (P6 : xPt), Q6 I6 J6 P6 → G_RF_writeName l V Q 67 [(0, xq (some 250)), (1, xi v1), (2, xi v2), (3, xi v3), (4, xi v4), (5, xi (v5 + (-1)))] [] I6 J6 P6)) ∧ (¬ (I 266 (((6 * v4) + v5).toNatClampNeg)) = 44 → (((I 266 (((6 * v4) + v5).toNatClampNeg)) = 61 → (∃ Q7 : xIt → xJt → xPt → Prop, xMet l V y_RF_put 1 0 0 [xq (some 250), xi 92] xS0 I5 J5 P5 (xPv Q7) ∧ ∀ (I7 : xIt) (J7 : xJt) (P7 : xPt), Q7 I7 J7 P7 → G_RF_writeName l V Q 67 [(0, xq (some 250)), (1, xi v1), (2, xi v2), (3, xi v3), (4, xi v4), (5, xi (v5 + (-1)))] [] I7 J7 P7)) ∧ (¬ (I 266 (((6 * v4) + v5).toNatClampNeg)) = 61 → ((¬ (I 266 (((6 * v4) + v5).toNatClampNeg)) = 92 → G_RF_writeName l V Q 67 [(0, xq (some 250)), (1, xi v1), (2, xi v2), (3, xi v3), (4, xi v4), (5, xi (v5 + (-1)))] [] I5 J5 P5) ∧ ((I 266 (((6 * v4) + v5).toNatClampNeg)) = 92 → (∃ Q8 : xIt → xJt → xPt → Prop, xMet l V y_RF_put 1 0 0 [xq (some 250), xi 92] xS0 I5 J5 P5 (xPv Q8) ∧ ∀ (I8 : xIt) (J8 : xJt) (P8 : xPt), Q8 I8 J8 P8 → G_RF_writeName l V Q 67 [(0, xq (some 250)), (1, xi v1), (2, xi v2), (3, xi v3), (4, xi v4), (5, xi (v5 + (-1)))] [] I8 J8 P8)))))))))))) : G_RF_writeName l V Q 67 [(0, xq (some 250)), (1, xi v1), (2, xi v2), (3, xi v3), (4, xi v4), (5, xi v5)] [] I J P := by
  refine xG_iload d_RF_writeName_67 rfl ?_
  refine xG_if_lt (tgt := 126) d_RF_writeName_69 (by decide) (fun c => ?_) (fun c => ?_)
  · have h := h.1 c
    refine xG_aload_n d_RF_writeName_126 rfl rfl rfl ?_
    refine xG_bipush (v := 61) d_RF_writeName_127 rfl ?_
    obtain ⟨Q1, hM, h⟩ := h
    refine xG_callv (as := [xi 61]) (rest := []) d_RF_writeName_129 yv_RF_put w5_62 rfl rfl rfl s0_250 (by decide) rfl hM ⟨by decide, by decide⟩ (Nat.le_of_ble_eq_true rfl) ⟨Nat.zero_le _, Nat.zero_le _⟩ (fun r S1 I1 J1 P1 hp => ?_)
    obtain ⟨rfl, hL1, rfl, hq⟩ := hp
    have h := h I1 J1 P1 hq
    refine xG_aload_n d_RF_writeName_132 rfl rfl rfl ?_
    refine xG_aload_n d_RF_writeName_133 rfl rfl rfl ?_
    refine xG_getq d_RF_writeName_134 xf_RF_49 rfl s0_250 ?_
    refine xG_iload d_RF_writeName_137 rfl ?_
    refine xG_iald d_RF_writeName_139 (lp_250_34 hL1) s0_264 h.1 ?_
    have h := h.2
    obtain ⟨Q2, hM, h⟩ := h
    refine xG_calls (as := [xi (I1 264 v4.toNatClampNeg)]) (rest := [xq (some 250)]) d_RF_writeName_140 ys_RF_letter w5_185 rfl rfl hM ⟨by decide, by decide⟩ (Nat.le_of_ble_eq_true rfl) ⟨Nat.zero_le _, Nat.zero_le _⟩ (fun r S2 I2 J2 P2 hp => ?_)
    obtain ⟨rfl, hL2, z2, rfl, hq⟩ := hp
    have h := h z2 I2 J2 P2 hq
    obtain ⟨Q3, hM, h⟩ := h
    refine xG_callv (as := [xi z2]) (rest := []) d_RF_writeName_143 yv_RF_put w5_62 rfl rfl rfl s0_250 (by decide) rfl hM ⟨by decide, by decide⟩ (Nat.le_of_ble_eq_true rfl) ⟨Nat.zero_le _, Nat.zero_le _⟩ (fun r S3 I3 J3 P3 hp => ?_)
    obtain ⟨rfl, hL3, rfl, hq⟩ := hp
    have h := h I3 J3 P3 hq
    refine xG_iload_n d_RF_writeName_146 rfl rfl ?_
    refine xG_if_le (tgt := 156) d_RF_writeName_147 (by decide) (fun c => ?_) (fun c => ?_)
    · have h := h.1 c
      refine xG_iinc (v := v3 + (-1)) (lv' := [(3, xi (v3 + (-1))), (0, xq (some 250)), (1, xi v1), (2, xi v2), (4, xi v4), (5, xi v5)]) d_RF_writeName_156 rfl rfl (Nat.le_of_ble_eq_true rfl) rfl ?_
      refine xG_goto (tgt := 25) d_RF_writeName_159 (by decide) ?_
      refine xG_pick [1, 2, 3, 0] rfl ?_
      exact h
    · have h := h.2 c
      refine xG_aload_n d_RF_writeName_150 rfl rfl rfl ?_
      refine xG_bipush (v := 44) d_RF_writeName_151 rfl ?_
      obtain ⟨Q4, hM, h⟩ := h
      refine xG_callv (as := [xi 44]) (rest := []) d_RF_writeName_153 yv_RF_put w5_62 rfl rfl rfl s0_250 (by decide) rfl hM ⟨by decide, by decide⟩ (Nat.le_of_ble_eq_true rfl) ⟨Nat.zero_le _, Nat.zero_le _⟩ (fun r S4 I4 J4 P4 hp => ?_)
      obtain ⟨rfl, hL4, rfl, hq⟩ := hp
      have h := h I4 J4 P4 hq
      refine xG_iinc (v := v3 + (-1)) (lv' := [(3, xi (v3 + (-1))), (0, xq (some 250)), (1, xi v1), (2, xi v2), (4, xi v4), (5, xi v5)]) d_RF_writeName_156 rfl rfl (Nat.le_of_ble_eq_true rfl) rfl ?_
      refine xG_goto (tgt := 25) d_RF_writeName_159 (by decide) ?_
      refine xG_pick [1, 2, 3, 0] rfl ?_
      exact h
  · have h := h.2 c
    refine xG_aload_n d_RF_writeName_72 rfl rfl rfl ?_
    refine xG_getq d_RF_writeName_73 xf_RF_55 rfl s0_250 ?_
    refine xG_bipush (v := 6) d_RF_writeName_76 rfl ?_
    refine xG_iload d_RF_writeName_78 rfl ?_
    refine xG_imul d_RF_writeName_80 ?_
    refine xG_iload d_RF_writeName_81 rfl ?_
    refine xG_iadd d_RF_writeName_83 ?_
    refine xG_iald d_RF_writeName_84 (lp_250_36 hL) s0_266 h.1 ?_
    have h := h.2
    refine xG_topi (x' := I 266 (((6 * v4) + v5).toNatClampNeg)) (by first | rfl | exact xu_at | simp [xu]) ?_
    refine xG_istore (lv' := [(6, xi (I 266 (((6 * v4) + v5).toNatClampNeg))), (0, xq (some 250)), (1, xi v1), (2, xi v2), (3, xi v3), (4, xi v4), (5, xi v5)]) d_RF_writeName_85 (Nat.le_of_ble_eq_true rfl) rfl ?_
    refine xG_aload_n d_RF_writeName_87 rfl rfl rfl ?_
    refine xG_iload d_RF_writeName_88 rfl ?_
    obtain ⟨Q5, hM, h⟩ := h
    refine xG_callv (as := [xi (I 266 (((6 * v4) + v5).toNatClampNeg))]) (rest := []) d_RF_writeName_90 yv_RF_put w5_62 rfl rfl rfl s0_250 (by decide) rfl hM ⟨by decide, by decide⟩ (Nat.le_of_ble_eq_true rfl) ⟨Nat.zero_le _, Nat.zero_le _⟩ (fun r S5 I5 J5 P5 hp => ?_)
    obtain ⟨rfl, hL5, rfl, hq⟩ := hp
    have h := h I5 J5 P5 hq
    refine xG_iload d_RF_writeName_93 rfl ?_
    refine xG_bipush (v := 44) d_RF_writeName_95 rfl ?_
    refine xG_icmp_eq (tgt := 114) d_RF_writeName_97 (by decide) (fun c => ?_) (fun c => ?_)
    · have h := h.1 c
      refine xG_aload_n d_RF_writeName_114 rfl rfl rfl ?_
      refine xG_bipush (v := 92) d_RF_writeName_115 rfl ?_
      obtain ⟨Q6, hM, h⟩ := h
      refine xG_callv (as := [xi 92]) (rest := []) d_RF_writeName_117 yv_RF_put w5_62 rfl rfl rfl s0_250 (by decide) rfl hM ⟨by decide, by decide⟩ (Nat.le_of_ble_eq_true rfl) ⟨Nat.zero_le _, Nat.zero_le _⟩ (fun r S6 I6 J6 P6 hp => ?_)
      obtain ⟨rfl, hL6, rfl, hq⟩ := hp
      have h := h I6 J6 P6 hq
      refine xG_iinc (v := v5 + (-1)) (lv' := [(5, xi (v5 + (-1))), (6, xi (I 266 (((6 * v4) + v5).toNatClampNeg))), (0, xq (some 250)), (1, xi v1), (2, xi v2), (3, xi v3), (4, xi v4)]) d_RF_writeName_120 rfl rfl (Nat.le_of_ble_eq_true rfl) rfl ?_
      refine xG_goto (tgt := 67) d_RF_writeName_123 (by decide) ?_
      refine xG_pick [2, 3, 4, 5, 6, 0] rfl ?_
      exact h
    · have h := h.2 c
      refine xG_iload d_RF_writeName_100 rfl ?_
      refine xG_bipush (v := 61) d_RF_writeName_102 rfl ?_
      refine xG_icmp_eq (tgt := 114) d_RF_writeName_104 (by decide) (fun c => ?_) (fun c => ?_)
      · have h := h.1 c
        refine xG_aload_n d_RF_writeName_114 rfl rfl rfl ?_
        refine xG_bipush (v := 92) d_RF_writeName_115 rfl ?_
        obtain ⟨Q7, hM, h⟩ := h
        refine xG_callv (as := [xi 92]) (rest := []) d_RF_writeName_117 yv_RF_put w5_62 rfl rfl rfl s0_250 (by decide) rfl hM ⟨by decide, by decide⟩ (Nat.le_of_ble_eq_true rfl) ⟨Nat.zero_le _, Nat.zero_le _⟩ (fun r S7 I7 J7 P7 hp => ?_)
        obtain ⟨rfl, hL7, rfl, hq⟩ := hp
        have h := h I7 J7 P7 hq
        refine xG_iinc (v := v5 + (-1)) (lv' := [(5, xi (v5 + (-1))), (6, xi (I 266 (((6 * v4) + v5).toNatClampNeg))), (0, xq (some 250)), (1, xi v1), (2, xi v2), (3, xi v3), (4, xi v4)]) d_RF_writeName_120 rfl rfl (Nat.le_of_ble_eq_true rfl) rfl ?_
        refine xG_goto (tgt := 67) d_RF_writeName_123 (by decide) ?_
        refine xG_pick [2, 3, 4, 5, 6, 0] rfl ?_
        exact h
      · have h := h.2 c
        refine xG_iload d_RF_writeName_107 rfl ?_
        refine xG_bipush (v := 92) d_RF_writeName_109 rfl ?_
        refine xG_icmp_ne (tgt := 120) d_RF_writeName_111 (by decide) (fun c => ?_) (fun c => ?_)
        · have h := h.1 c
          refine xG_iinc (v := v5 + (-1)) (lv' := [(5, xi (v5 + (-1))), (6, xi (I 266 (((6 * v4) + v5).toNatClampNeg))), (0, xq (some 250)), (1, xi v1), (2, xi v2), (3, xi v3), (4, xi v4)]) d_RF_writeName_120 rfl rfl (Nat.le_of_ble_eq_true rfl) rfl ?_
          refine xG_goto (tgt := 67) d_RF_writeName_123 (by decide) ?_
          refine xG_pick [2, 3, 4, 5, 6, 0] rfl ?_
          exact h
        · have h := h.2 c
          refine xG_aload_n d_RF_writeName_114 rfl rfl rfl ?_
          refine xG_bipush (v := 92) d_RF_writeName_115 rfl ?_
          obtain ⟨Q8, hM, h⟩ := h
          refine xG_callv (as := [xi 92]) (rest := []) d_RF_writeName_117 yv_RF_put w5_62 rfl rfl rfl s0_250 (by decide) rfl hM ⟨by decide, by decide⟩ (Nat.le_of_ble_eq_true rfl) ⟨Nat.zero_le _, Nat.zero_le _⟩ (fun r S8 I8 J8 P8 hp => ?_)
          obtain ⟨rfl, hL8, rfl, hq⟩ := hp
          have h := h I8 J8 P8 hq
          refine xG_iinc (v := v5 + (-1)) (lv' := [(5, xi (v5 + (-1))), (6, xi (I 266 (((6 * v4) + v5).toNatClampNeg))), (0, xq (some 250)), (1, xi v1), (2, xi v2), (3, xi v3), (4, xi v4)]) d_RF_writeName_120 rfl rfl (Nat.le_of_ble_eq_true rfl) rfl ?_
          refine xG_goto (tgt := 67) d_RF_writeName_123 (by decide) ?_
          refine xG_pick [2, 3, 4, 5, 6, 0] rfl ?_
          exact h
theorem e_RF_writeName {l : Launch} {V : xV} {Q : xIt → xJt → xPt → Prop} {I : xIt} {J : xJt} {P : xPt} {v1 : Int32} (h : G_RF_writeName l V Q 0 [(0, xq (some 250)), (1, xi v1)] [] I J P) : xMet l V y_RF_writeName 2 0 0 [xq (some 250), xi v1] xS0 I J P (xPv Q) := xMet_of (by decide) (Nat.le_of_ble_eq_true rfl) h

abbrev G_RF_writeEntry (l : Launch) (V : xV) (Q : xIt → xJt → xPt → Prop) (pc : Nat) (lv : List (Nat × xX)) (st : List xX) (I : xIt) (J : xJt) (P : xPt) : Prop := xG l V y_RF_writeEntry (xR 4 0 0) (xFn V y_RF_writeEntry (xR 4 0 0) (xPv Q)) pc lv st xS0 I J P (0, 0)
set_option maxRecDepth 20000 in
theorem b_RF_writeEntry_0 {l : Launch} {V : xV} {Q : xIt → xJt → xPt → Prop} {I : xIt} {J : xJt} {P : xPt} (hL : xL P) {v1 : Int32} (h : G_RF_writeEntry l V Q 7 [(0, xq (some 250)), (1, xi v1), (2, xi 4)] [] (xu I 250 44 0) J P) : G_RF_writeEntry l V Q 0 [(0, xq (some 250)), (1, xi v1)] [] I J P := by
  refine xG_aload_n d_RF_writeEntry_0 rfl rfl rfl ?_
  refine xG_iconst (v := 0) d_RF_writeEntry_1 rfl ?_
  refine xG_puti d_RF_writeEntry_2 xf_RF_299 (Or.inl rfl) rfl s0_250 rfl rfl ?_
  refine xG_iconst (v := 4) d_RF_writeEntry_5 rfl ?_
  refine xG_istore_n (lv' := [(2, xi 4), (0, xq (some 250)), (1, xi v1)]) d_RF_writeEntry_6 rfl (Nat.le_of_ble_eq_true rfl) rfl ?_
  refine xG_pick [1, 2, 0] rfl ?_
  exact h
set_option maxRecDepth 20000 in
theorem b_RF_writeEntry_7 {l : Launch} {V : xV} {Q : xIt → xJt → xPt → Prop} {I : xIt} {J : xJt} {P : xPt} (hL : xL P) {v1 : Int32} {v2 : Int32} (h : ((v2 < 0 → (∃ Q1 : xIt → xJt → xPt → Prop, xMet l V y_RF_close 2 0 0 [xq (some 250), xi 48, xi 0] xS0 I J P (xPv Q1) ∧ ∀ (I1 : xIt) (J1 : xJt) (P1 : xPt), Q1 I1 J1 P1 → (∃ Q2 : xIt → xJt → xPt → Prop, xMet l V y_RF_writeName 2 0 0 [xq (some 250), xi v1] xS0 I1 J1 P1 (xPv Q2) ∧ ∀ (I2 : xIt) (J2 : xJt) (P2 : xPt), Q2 I2 J2 P2 → (∃ Q3 : xIt → xJt → xPt → Prop, xMet l V y_RF_close 2 0 0 [xq (some 250), xi 4, xi (I1 250 44)] xS0 I2 J2 P2 (xPv Q3) ∧ ∀ (I3 : xIt) (J3 : xJt) (P3 : xPt), Q3 I3 J3 P3 → (∃ Q4 : xIt → xJt → xPt → Prop, xMet l V y_RF_close 2 0 0 [xq (some 250), xi 100, xi 0] xS0 I3 J3 P3 (xPv Q4) ∧ ∀ (I4 : xIt) (J4 : xJt) (P4 : xPt), Q4 I4 J4 P4 → (∃ Q5 : xIt → xJt → xPt → Prop, xMet l V y_RF_ship 3 0 0 [xq (some 250)] xS0 I4 J4 P4 (xPv Q5) ∧ ∀ (I5 : xIt) (J5 : xJt) (P5 : xPt), Q5 I5 J5 P5 → Q I5 J5 P5)))))) ∧ (¬ v2 < 0 → (vp_in ((5 * v1) + v2) 65 ∧ (((I 258 (((5 * v1) + v2).toNatClampNeg)) ≤ 0 → G_RF_writeEntry l V Q 7 [(0, xq (some 250)), (1, xi v1), (2, xi (v2 + (-1)))] [] I J P) ∧ (¬ (I 258 (((5 * v1) + v2).toNatClampNeg)) ≤ 0 → (∃ Q6 : xIt → xJt → xPt → Prop, xMet l V y_RF_writeAttribute 3 0 0 [xq (some 250), xi v1, xi v2] xS0 I J P (xPv Q6) ∧ ∀ (I6 : xIt) (J6 : xJt) (P6 : xPt), Q6 I6 J6 P6 → G_RF_writeEntry l V Q 7 [(0, xq (some 250)), (1, xi v1), (2, xi (v2 + (-1)))] [] I6 J6 P6))))))) : G_RF_writeEntry l V Q 7 [(0, xq (some 250)), (1, xi v1), (2, xi v2)] [] I J P := by
  refine xG_iload_n d_RF_writeEntry_7 rfl rfl ?_
  refine xG_if_lt (tgt := 36) d_RF_writeEntry_8 (by decide) (fun c => ?_) (fun c => ?_)
  · have h := h.1 c
    refine xG_aload_n d_RF_writeEntry_36 rfl rfl rfl ?_
    refine xG_bipush (v := 48) d_RF_writeEntry_37 rfl ?_
    refine xG_iconst (v := 0) d_RF_writeEntry_39 rfl ?_
    obtain ⟨Q1, hM, h⟩ := h
    refine xG_callv (as := [xi 48, xi 0]) (rest := []) d_RF_writeEntry_40 yv_RF_close w5_66 rfl rfl rfl s0_250 (by decide) rfl hM ⟨by decide, by decide⟩ (Nat.le_of_ble_eq_true rfl) ⟨Nat.zero_le _, Nat.zero_le _⟩ (fun r S1 I1 J1 P1 hp => ?_)
    obtain ⟨rfl, hL1, rfl, hq⟩ := hp
    have h := h I1 J1 P1 hq
    refine xG_aload_n d_RF_writeEntry_43 rfl rfl rfl ?_
    refine xG_geti d_RF_writeEntry_44 xf_RF_299 rfl s0_250 ?_
    refine xG_istore_n (lv' := [(2, xi (I1 250 44)), (0, xq (some 250)), (1, xi v1)]) d_RF_writeEntry_47 rfl (Nat.le_of_ble_eq_true rfl) rfl ?_
    refine xG_aload_n d_RF_writeEntry_48 rfl rfl rfl ?_
    refine xG_iload_n d_RF_writeEntry_49 rfl rfl ?_
    obtain ⟨Q2, hM, h⟩ := h
    refine xG_callv (as := [xi v1]) (rest := []) d_RF_writeEntry_50 yv_RF_writeName w5_188 rfl rfl rfl s0_250 (by decide) rfl hM ⟨by decide, by decide⟩ (Nat.le_of_ble_eq_true rfl) ⟨Nat.zero_le _, Nat.zero_le _⟩ (fun r S2 I2 J2 P2 hp => ?_)
    obtain ⟨rfl, hL2, rfl, hq⟩ := hp
    have h := h I2 J2 P2 hq
    refine xG_aload_n d_RF_writeEntry_53 rfl rfl rfl ?_
    refine xG_iconst (v := 4) d_RF_writeEntry_54 rfl ?_
    refine xG_iload_n d_RF_writeEntry_55 rfl rfl ?_
    obtain ⟨Q3, hM, h⟩ := h
    refine xG_callv (as := [xi 4, xi (I1 250 44)]) (rest := []) d_RF_writeEntry_56 yv_RF_close w5_66 rfl rfl rfl s0_250 (by decide) rfl hM ⟨by decide, by decide⟩ (Nat.le_of_ble_eq_true rfl) ⟨Nat.zero_le _, Nat.zero_le _⟩ (fun r S3 I3 J3 P3 hp => ?_)
    obtain ⟨rfl, hL3, rfl, hq⟩ := hp
    have h := h I3 J3 P3 hq
    refine xG_aload_n d_RF_writeEntry_59 rfl rfl rfl ?_
    refine xG_bipush (v := 100) d_RF_writeEntry_60 rfl ?_
    refine xG_iconst (v := 0) d_RF_writeEntry_62 rfl ?_
    obtain ⟨Q4, hM, h⟩ := h
    refine xG_callv (as := [xi 100, xi 0]) (rest := []) d_RF_writeEntry_63 yv_RF_close w5_66 rfl rfl rfl s0_250 (by decide) rfl hM ⟨by decide, by decide⟩ (Nat.le_of_ble_eq_true rfl) ⟨Nat.zero_le _, Nat.zero_le _⟩ (fun r S4 I4 J4 P4 hp => ?_)
    obtain ⟨rfl, hL4, rfl, hq⟩ := hp
    have h := h I4 J4 P4 hq
    refine xG_aload_n d_RF_writeEntry_66 rfl rfl rfl ?_
    obtain ⟨Q5, hM, h⟩ := h
    refine xG_callv (as := []) (rest := []) d_RF_writeEntry_67 yv_RF_ship w5_70 rfl rfl rfl s0_250 (by decide) rfl hM ⟨by decide, by decide⟩ (Nat.le_of_ble_eq_true rfl) ⟨Nat.zero_le _, Nat.zero_le _⟩ (fun r S5 I5 J5 P5 hp => ?_)
    obtain ⟨rfl, hL5, rfl, hq⟩ := hp
    have h := h I5 J5 P5 hq
    exact xG_return d_RF_writeEntry_70 rfl ⟨rfl, hL5, rfl, h⟩
  · have h := h.2 c
    refine xG_aload_n d_RF_writeEntry_11 rfl rfl rfl ?_
    refine xG_getq d_RF_writeEntry_12 xf_RF_31 rfl s0_250 ?_
    refine xG_iconst (v := 5) d_RF_writeEntry_15 rfl ?_
    refine xG_iload_n d_RF_writeEntry_16 rfl rfl ?_
    refine xG_imul d_RF_writeEntry_17 ?_
    refine xG_iload_n d_RF_writeEntry_18 rfl rfl ?_
    refine xG_iadd d_RF_writeEntry_19 ?_
    refine xG_iald d_RF_writeEntry_20 (lp_250_28 hL) s0_258 h.1 ?_
    have h := h.2
    refine xG_topi (x' := I 258 (((5 * v1) + v2).toNatClampNeg)) (by first | rfl | exact xu_at | simp [xu]) ?_
    refine xG_if_le (tgt := 30) d_RF_writeEntry_21 (by decide) (fun c => ?_) (fun c => ?_)
    · have h := h.1 c
      refine xG_iinc (v := v2 + (-1)) (lv' := [(2, xi (v2 + (-1))), (0, xq (some 250)), (1, xi v1)]) d_RF_writeEntry_30 rfl rfl (Nat.le_of_ble_eq_true rfl) rfl ?_
      refine xG_goto (tgt := 7) d_RF_writeEntry_33 (by decide) ?_
      refine xG_pick [1, 2, 0] rfl ?_
      exact h
    · have h := h.2 c
      refine xG_aload_n d_RF_writeEntry_24 rfl rfl rfl ?_
      refine xG_iload_n d_RF_writeEntry_25 rfl rfl ?_
      refine xG_iload_n d_RF_writeEntry_26 rfl rfl ?_
      obtain ⟨Q6, hM, h⟩ := h
      refine xG_callv (as := [xi v1, xi v2]) (rest := []) d_RF_writeEntry_27 yv_RF_writeAttribute w5_181 rfl rfl rfl s0_250 (by decide) rfl hM ⟨by decide, by decide⟩ (Nat.le_of_ble_eq_true rfl) ⟨Nat.zero_le _, Nat.zero_le _⟩ (fun r S6 I6 J6 P6 hp => ?_)
      obtain ⟨rfl, hL6, rfl, hq⟩ := hp
      have h := h I6 J6 P6 hq
      refine xG_iinc (v := v2 + (-1)) (lv' := [(2, xi (v2 + (-1))), (0, xq (some 250)), (1, xi v1)]) d_RF_writeEntry_30 rfl rfl (Nat.le_of_ble_eq_true rfl) rfl ?_
      refine xG_goto (tgt := 7) d_RF_writeEntry_33 (by decide) ?_
      refine xG_pick [1, 2, 0] rfl ?_
      exact h
theorem e_RF_writeEntry {l : Launch} {V : xV} {Q : xIt → xJt → xPt → Prop} {I : xIt} {J : xJt} {P : xPt} {v1 : Int32} (h : G_RF_writeEntry l V Q 0 [(0, xq (some 250)), (1, xi v1)] [] I J P) : xMet l V y_RF_writeEntry 4 0 0 [xq (some 250), xi v1] xS0 I J P (xPv Q) := xMet_of (by decide) (Nat.le_of_ble_eq_true rfl) h

abbrev G_RF_malformed (l : Launch) (V : xV) (Q : xIt → xJt → xPt → Prop) (pc : Nat) (lv : List (Nat × xX)) (st : List xX) (I : xIt) (J : xJt) (P : xPt) : Prop := xG l V y_RF_malformed (xR 2 0 0) (xFn V y_RF_malformed (xR 2 0 0) (xPv Q)) pc lv st xS0 I J P (0, 0)
set_option maxRecDepth 20000 in
theorem b_RF_malformed_0 {l : Launch} {V : xV} {Q : xIt → xJt → xPt → Prop} {I : xIt} {J : xJt} {P : xPt} (hL : xL P)  (h : G_RF_malformed l V Q 8 [(0, xq (some 250)), (1, xi 0)] [] (xu I 250 42 14) J P) : G_RF_malformed l V Q 0 [(0, xq (some 250))] [] I J P := by
  refine xG_aload_n d_RF_malformed_0 rfl rfl rfl ?_
  refine xG_bipush (v := 14) d_RF_malformed_1 rfl ?_
  refine xG_puti d_RF_malformed_3 xf_RF_308 (Or.inl rfl) rfl s0_250 rfl rfl ?_
  refine xG_iconst (v := 0) d_RF_malformed_6 rfl ?_
  refine xG_istore_n (lv' := [(1, xi 0), (0, xq (some 250))]) d_RF_malformed_7 rfl (Nat.le_of_ble_eq_true rfl) rfl ?_
  refine xG_pick [1, 0] rfl ?_
  exact h
set_option maxRecDepth 20000 in
theorem b_RF_malformed_8 {l : Launch} {V : xV} {Q : xIt → xJt → xPt → Prop} {I : xIt} {J : xJt} {P : xPt} (hL : xL P) {v1 : Int32} (h : ((14 ≤ v1 → Q (xu I 250 0 1) J P) ∧ (¬ 14 ≤ v1 → (∃ Q1 : Int32 → xIt → xJt → xPt → Prop, xMet l V y_RF_noticeByte 1 0 0 [xi v1] xS0 I J P (xPi Q1) ∧ ∀ (z1 : Int32) (I1 : xIt) (J1 : xJt) (P1 : xPt), Q1 z1 I1 J1 P1 → (vp_in v1 2048 ∧ G_RF_malformed l V Q 8 [(0, xq (some 250)), (1, xi (v1 + 1))] [] (xu I1 271 v1.toNatClampNeg z1) J1 P1))))) : G_RF_malformed l V Q 8 [(0, xq (some 250)), (1, xi v1)] [] I J P := by
  refine xG_iload_n d_RF_malformed_8 rfl rfl ?_
  refine xG_bipush (v := 14) d_RF_malformed_9 rfl ?_
  refine xG_icmp_ge (tgt := 30) d_RF_malformed_11 (by decide) (fun c => ?_) (fun c => ?_)
  · have h := h.1 c
    refine xG_aload_n d_RF_malformed_30 rfl rfl rfl ?_
    refine xG_iconst (v := 1) d_RF_malformed_31 rfl ?_
    refine xG_puti d_RF_malformed_32 xf_RF_326 (Or.inl rfl) rfl s0_250 rfl rfl ?_
    exact xG_return d_RF_malformed_35 rfl ⟨rfl, hL, rfl, h⟩
  · have h := h.2 c
    refine xG_aload_n d_RF_malformed_14 rfl rfl rfl ?_
    refine xG_getq d_RF_malformed_15 xf_RF_74 rfl s0_250 ?_
    refine xG_iload_n d_RF_malformed_18 rfl rfl ?_
    refine xG_iload_n d_RF_malformed_19 rfl rfl ?_
    obtain ⟨Q1, hM, h⟩ := h
    refine xG_calls (as := [xi v1]) (rest := [xi v1, xq (P 250 43)]) d_RF_malformed_20 ys_RF_noticeByte w5_196 rfl rfl hM ⟨by decide, by decide⟩ (Nat.le_of_ble_eq_true rfl) ⟨Nat.zero_le _, Nat.zero_le _⟩ (fun r S1 I1 J1 P1 hp => ?_)
    obtain ⟨rfl, hL1, z1, rfl, hq⟩ := hp
    have h := h z1 I1 J1 P1 hq
    refine xG_iast d_RF_malformed_23 (lp_250_43 hL) s0_271 h.1 ?_
    have h := h.2
    refine xG_iinc (v := v1 + 1) (lv' := [(1, xi (v1 + 1)), (0, xq (some 250))]) d_RF_malformed_24 rfl rfl (Nat.le_of_ble_eq_true rfl) rfl ?_
    refine xG_goto (tgt := 8) d_RF_malformed_27 (by decide) ?_
    refine xG_pick [1, 0] rfl ?_
    exact h
theorem e_RF_malformed {l : Launch} {V : xV} {Q : xIt → xJt → xPt → Prop} {I : xIt} {J : xJt} {P : xPt}  (h : G_RF_malformed l V Q 0 [(0, xq (some 250))] [] I J P) : xMet l V y_RF_malformed 2 0 0 [xq (some 250)] xS0 I J P (xPv Q) := xMet_of (by decide) (Nat.le_of_ble_eq_true rfl) h

abbrev G_RF_noticeByte (l : Launch) (V : xV) (Q : Int32 → xIt → xJt → xPt → Prop) (pc : Nat) (lv : List (Nat × xX)) (st : List xX) (I : xIt) (J : xJt) (P : xPt) : Prop := xG l V y_RF_noticeByte (xR 1 0 0) (xFn V y_RF_noticeByte (xR 1 0 0) (xPi Q)) pc lv st xS0 I J P (0, 0)
set_option maxRecDepth 20000 in
theorem b_RF_noticeByte_0 {l : Launch} {V : xV} {Q : Int32 → xIt → xJt → xPt → Prop} {I : xIt} {J : xJt} {P : xPt} (hL : xL P) {v0 : Int32} (h : ((v0 = 0 → Q 48 I J P) ∧ (v0 = 1 → Q 12 I J P) ∧ (v0 = 2 → Q 2 I J P) ∧ (v0 = 3 → Q 1 I J P) ∧ (v0 = 4 → Q 0 I J P) ∧ (v0 = 5 → Q 120 I J P) ∧ (v0 = 6 → Q 7 I J P) ∧ (v0 = 7 → Q 10 I J P) ∧ (v0 = 8 → Q 1 I J P) ∧ (v0 = 9 → Q 2 I J P) ∧ (v0 = 10 → Q 4 I J P) ∧ (v0 = 11 → Q 0 I J P) ∧ (v0 = 12 → Q 4 I J P) ∧ (¬ v0 = 0 → ¬ v0 = 1 → ¬ v0 = 2 → ¬ v0 = 3 → ¬ v0 = 4 → ¬ v0 = 5 → ¬ v0 = 6 → ¬ v0 = 7 → ¬ v0 = 8 → ¬ v0 = 9 → ¬ v0 = 10 → ¬ v0 = 11 → ¬ v0 = 12 → Q 0 I J P))) : G_RF_noticeByte l V Q 0 [(0, xi v0)] [] I J P := by
  refine xG_iload_n d_RF_noticeByte_0 rfl rfl ?_
  by_cases c0 : v0 = 0
  · have h := h.1 c0
    refine xG_topi (x' := 0) c0 ?_
    refine xG_tableIn (off := 67) (tgt := 68) d_RF_noticeByte_1 (by decide) (by decide) rfl (by decide) ?_
    refine xG_bipush (v := 48) d_RF_noticeByte_68 rfl ?_
    exact xG_ireturn d_RF_noticeByte_70 rfl rfl ⟨rfl, hL, _, rfl, h⟩
  by_cases c1 : v0 = 1
  · have h := h.2.1 c1
    refine xG_topi (x' := 1) c1 ?_
    refine xG_tableIn (off := 70) (tgt := 71) d_RF_noticeByte_1 (by decide) (by decide) rfl (by decide) ?_
    refine xG_bipush (v := 12) d_RF_noticeByte_71 rfl ?_
    exact xG_ireturn d_RF_noticeByte_73 rfl rfl ⟨rfl, hL, _, rfl, h⟩
  by_cases c2 : v0 = 2
  · have h := h.2.2.1 c2
    refine xG_topi (x' := 2) c2 ?_
    refine xG_tableIn (off := 73) (tgt := 74) d_RF_noticeByte_1 (by decide) (by decide) rfl (by decide) ?_
    refine xG_iconst (v := 2) d_RF_noticeByte_74 rfl ?_
    exact xG_ireturn d_RF_noticeByte_75 rfl rfl ⟨rfl, hL, _, rfl, h⟩
  by_cases c3 : v0 = 3
  · have h := h.2.2.2.1 c3
    refine xG_topi (x' := 3) c3 ?_
    refine xG_tableIn (off := 75) (tgt := 76) d_RF_noticeByte_1 (by decide) (by decide) rfl (by decide) ?_
    refine xG_iconst (v := 1) d_RF_noticeByte_76 rfl ?_
    exact xG_ireturn d_RF_noticeByte_77 rfl rfl ⟨rfl, hL, _, rfl, h⟩
  by_cases c4 : v0 = 4
  · have h := h.2.2.2.2.1 c4
    refine xG_topi (x' := 4) c4 ?_
    refine xG_tableIn (off := 94) (tgt := 95) d_RF_noticeByte_1 (by decide) (by decide) rfl (by decide) ?_
    refine xG_iconst (v := 0) d_RF_noticeByte_95 rfl ?_
    exact xG_ireturn d_RF_noticeByte_96 rfl rfl ⟨rfl, hL, _, rfl, h⟩
  by_cases c5 : v0 = 5
  · have h := h.2.2.2.2.2.1 c5
    refine xG_topi (x' := 5) c5 ?_
    refine xG_tableIn (off := 77) (tgt := 78) d_RF_noticeByte_1 (by decide) (by decide) rfl (by decide) ?_
    refine xG_bipush (v := 120) d_RF_noticeByte_78 rfl ?_
    exact xG_ireturn d_RF_noticeByte_80 rfl rfl ⟨rfl, hL, _, rfl, h⟩
  by_cases c6 : v0 = 6
  · have h := h.2.2.2.2.2.2.1 c6
    refine xG_topi (x' := 6) c6 ?_
    refine xG_tableIn (off := 80) (tgt := 81) d_RF_noticeByte_1 (by decide) (by decide) rfl (by decide) ?_
    refine xG_bipush (v := 7) d_RF_noticeByte_81 rfl ?_
    exact xG_ireturn d_RF_noticeByte_83 rfl rfl ⟨rfl, hL, _, rfl, h⟩
  by_cases c7 : v0 = 7
  · have h := h.2.2.2.2.2.2.2.1 c7
    refine xG_topi (x' := 7) c7 ?_
    refine xG_tableIn (off := 83) (tgt := 84) d_RF_noticeByte_1 (by decide) (by decide) rfl (by decide) ?_
    refine xG_bipush (v := 10) d_RF_noticeByte_84 rfl ?_
    exact xG_ireturn d_RF_noticeByte_86 rfl rfl ⟨rfl, hL, _, rfl, h⟩
  by_cases c8 : v0 = 8
  · have h := h.2.2.2.2.2.2.2.2.1 c8
    refine xG_topi (x' := 8) c8 ?_
    refine xG_tableIn (off := 86) (tgt := 87) d_RF_noticeByte_1 (by decide) (by decide) rfl (by decide) ?_
    refine xG_iconst (v := 1) d_RF_noticeByte_87 rfl ?_
    exact xG_ireturn d_RF_noticeByte_88 rfl rfl ⟨rfl, hL, _, rfl, h⟩
  by_cases c9 : v0 = 9
  · have h := h.2.2.2.2.2.2.2.2.2.1 c9
    refine xG_topi (x' := 9) c9 ?_
    refine xG_tableIn (off := 88) (tgt := 89) d_RF_noticeByte_1 (by decide) (by decide) rfl (by decide) ?_
    refine xG_iconst (v := 2) d_RF_noticeByte_89 rfl ?_
    exact xG_ireturn d_RF_noticeByte_90 rfl rfl ⟨rfl, hL, _, rfl, h⟩
  by_cases c10 : v0 = 10
  · have h := h.2.2.2.2.2.2.2.2.2.2.1 c10
    refine xG_topi (x' := 10) c10 ?_
    refine xG_tableIn (off := 90) (tgt := 91) d_RF_noticeByte_1 (by decide) (by decide) rfl (by decide) ?_
    refine xG_iconst (v := 4) d_RF_noticeByte_91 rfl ?_
    exact xG_ireturn d_RF_noticeByte_92 rfl rfl ⟨rfl, hL, _, rfl, h⟩
  by_cases c11 : v0 = 11
  · have h := h.2.2.2.2.2.2.2.2.2.2.2.1 c11
    refine xG_topi (x' := 11) c11 ?_
    refine xG_tableIn (off := 94) (tgt := 95) d_RF_noticeByte_1 (by decide) (by decide) rfl (by decide) ?_
    refine xG_iconst (v := 0) d_RF_noticeByte_95 rfl ?_
    exact xG_ireturn d_RF_noticeByte_96 rfl rfl ⟨rfl, hL, _, rfl, h⟩
  by_cases c12 : v0 = 12
  · have h := h.2.2.2.2.2.2.2.2.2.2.2.2.1 c12
    refine xG_topi (x' := 12) c12 ?_
    refine xG_tableIn (off := 92) (tgt := 93) d_RF_noticeByte_1 (by decide) (by decide) rfl (by decide) ?_
    refine xG_iconst (v := 4) d_RF_noticeByte_93 rfl ?_
    exact xG_ireturn d_RF_noticeByte_94 rfl rfl ⟨rfl, hL, _, rfl, h⟩
  have h := h.2.2.2.2.2.2.2.2.2.2.2.2.2 c0 c1 c2 c3 c4 c5 c6 c7 c8 c9 c10 c11 c12
  refine xG_tableOut (tgt := 95) d_RF_noticeByte_1 (by have n0 := lv_neT c0 (show (0 : Int32).toInt = 0 by decide); have n1 := lv_neT c1 (show (1 : Int32).toInt = 1 by decide); have n2 := lv_neT c2 (show (2 : Int32).toInt = 2 by decide); have n3 := lv_neT c3 (show (3 : Int32).toInt = 3 by decide); have n4 := lv_neT c4 (show (4 : Int32).toInt = 4 by decide); have n5 := lv_neT c5 (show (5 : Int32).toInt = 5 by decide); have n6 := lv_neT c6 (show (6 : Int32).toInt = 6 by decide); have n7 := lv_neT c7 (show (7 : Int32).toInt = 7 by decide); have n8 := lv_neT c8 (show (8 : Int32).toInt = 8 by decide); have n9 := lv_neT c9 (show (9 : Int32).toInt = 9 by decide); have n10 := lv_neT c10 (show (10 : Int32).toInt = 10 by decide); have n11 := lv_neT c11 (show (11 : Int32).toInt = 11 by decide); have n12 := lv_neT c12 (show (12 : Int32).toInt = 12 by decide); omega) (by decide) ?_
  refine xG_iconst (v := 0) d_RF_noticeByte_95 rfl ?_
  exact xG_ireturn d_RF_noticeByte_96 rfl rfl ⟨rfl, hL, _, rfl, h⟩
theorem e_RF_noticeByte {l : Launch} {V : xV} {Q : Int32 → xIt → xJt → xPt → Prop} {I : xIt} {J : xJt} {P : xPt} {v0 : Int32} (h : G_RF_noticeByte l V Q 0 [(0, xi v0)] [] I J P) : xMet l V y_RF_noticeByte 1 0 0 [xi v0] xS0 I J P (xPi Q) := xMet_of (by decide) (Nat.le_of_ble_eq_true rfl) h

abbrev G_RF_perform (l : Launch) (V : xV) (Q : xIt → xJt → xPt → Prop) (pc : Nat) (lv : List (Nat × xX)) (st : List xX) (I : xIt) (J : xJt) (P : xPt) : Prop := xG l V y_RF_perform (xR 7 0 0) (xFn V y_RF_perform (xR 7 0 0) (xPv Q)) pc lv st xS0 I J P (0, 0)
set_option maxRecDepth 20000 in
theorem b_RF_perform_0 {l : Launch} {V : xV} {Q : xIt → xJt → xPt → Prop} {I : xIt} {J : xJt} {P : xPt} (hL : xL P)  (h : ((¬ (I 250 9) = 66 → ((¬ (I 250 9) = 96 → G_RF_perform l V Q 38 [(0, xq (some 250))] [] (xu I 250 42 0) J P) ∧ ((I 250 9) = 96 → (∃ Q1 : Int32 → xIt → xJt → xPt → Prop, xMet l V y_RF_bind 5 0 0 [xq (some 250)] xS0 (xu I 250 42 0) J P (xPi Q1) ∧ ∀ (z1 : Int32) (I1 : xIt) (J1 : xJt) (P1 : xPt), Q1 z1 I1 J1 P1 → (∃ Q2 : xIt → xJt → xPt → Prop, xMet l V y_RF_answer 4 0 0 [xq (some 250), xi 97, xi z1] xS0 I1 J1 P1 (xPv Q2) ∧ ∀ (I2 : xIt) (J2 : xJt) (P2 : xPt), Q2 I2 J2 P2 → G_RF_perform l V Q 38 [(0, xq (some 250))] [] I2 J2 P2))))) ∧ ((I 250 9) = 66 → ((¬ (I 250 9) = 96 → G_RF_perform l V Q 38 [(0, xq (some 250))] [] (xu (xu I 250 42 0) 250 0 1) J P) ∧ ((I 250 9) = 96 → (∃ Q3 : Int32 → xIt → xJt → xPt → Prop, xMet l V y_RF_bind 5 0 0 [xq (some 250)] xS0 (xu (xu I 250 42 0) 250 0 1) J P (xPi Q3) ∧ ∀ (z3 : Int32) (I3 : xIt) (J3 : xJt) (P3 : xPt), Q3 z3 I3 J3 P3 → (∃ Q4 : xIt → xJt → xPt → Prop, xMet l V y_RF_answer 4 0 0 [xq (some 250), xi 97, xi z3] xS0 I3 J3 P3 (xPv Q4) ∧ ∀ (I4 : xIt) (J4 : xJt) (P4 : xPt), Q4 I4 J4 P4 → G_RF_perform l V Q 38 [(0, xq (some 250))] [] I4 J4 P4))))))) : G_RF_perform l V Q 0 [(0, xq (some 250))] [] I J P := by
  refine xG_aload_n d_RF_perform_0 rfl rfl rfl ?_
  refine xG_iconst (v := 0) d_RF_perform_1 rfl ?_
  refine xG_puti d_RF_perform_2 xf_RF_308 (Or.inl rfl) rfl s0_250 rfl rfl ?_
  refine xG_aload_n d_RF_perform_5 rfl rfl rfl ?_
  refine xG_geti d_RF_perform_6 xf_RF_134 rfl s0_250 ?_
  refine xG_topi (x' := I 250 9) (by first | rfl | exact xu_at | simp [xu]) ?_
  refine xG_bipush (v := 66) d_RF_perform_9 rfl ?_
  refine xG_icmp_ne (tgt := 19) d_RF_perform_11 (by decide) (fun c => ?_) (fun c => ?_)
  · have h := h.1 c
    refine xG_aload_n d_RF_perform_19 rfl rfl rfl ?_
    refine xG_geti d_RF_perform_20 xf_RF_134 rfl s0_250 ?_
    refine xG_topi (x' := I 250 9) (by first | rfl | exact xu_at | simp [xu]) ?_
    refine xG_bipush (v := 96) d_RF_perform_23 rfl ?_
    refine xG_icmp_ne (tgt := 38) d_RF_perform_25 (by decide) (fun c => ?_) (fun c => ?_)
    · have h := h.1 c
      exact h
    · have h := h.2 c
      refine xG_aload_n d_RF_perform_28 rfl rfl rfl ?_
      refine xG_bipush (v := 97) d_RF_perform_29 rfl ?_
      refine xG_aload_n d_RF_perform_31 rfl rfl rfl ?_
      obtain ⟨Q1, hM, h⟩ := h
      refine xG_callv (as := []) (rest := [xi 97, xq (some 250)]) d_RF_perform_32 yv_RF_bind w5_11 rfl rfl rfl s0_250 (by decide) rfl hM ⟨by decide, by decide⟩ (Nat.le_of_ble_eq_true rfl) ⟨Nat.zero_le _, Nat.zero_le _⟩ (fun r S1 I1 J1 P1 hp => ?_)
      obtain ⟨rfl, hL1, z1, rfl, hq⟩ := hp
      have h := h z1 I1 J1 P1 hq
      obtain ⟨Q2, hM, h⟩ := h
      refine xG_callv (as := [xi 97, xi z1]) (rest := []) d_RF_perform_35 yv_RF_answer w5_58 rfl rfl rfl s0_250 (by decide) rfl hM ⟨by decide, by decide⟩ (Nat.le_of_ble_eq_true rfl) ⟨Nat.zero_le _, Nat.zero_le _⟩ (fun r S2 I2 J2 P2 hp => ?_)
      obtain ⟨rfl, hL2, rfl, hq⟩ := hp
      have h := h I2 J2 P2 hq
      exact h
  · have h := h.2 c
    refine xG_aload_n d_RF_perform_14 rfl rfl rfl ?_
    refine xG_iconst (v := 1) d_RF_perform_15 rfl ?_
    refine xG_puti d_RF_perform_16 xf_RF_326 (Or.inl rfl) rfl s0_250 rfl rfl ?_
    refine xG_aload_n d_RF_perform_19 rfl rfl rfl ?_
    refine xG_geti d_RF_perform_20 xf_RF_134 rfl s0_250 ?_
    refine xG_topi (x' := I 250 9) (by first | rfl | exact xu_at | simp [xu]) ?_
    refine xG_bipush (v := 96) d_RF_perform_23 rfl ?_
    refine xG_icmp_ne (tgt := 38) d_RF_perform_25 (by decide) (fun c => ?_) (fun c => ?_)
    · have h := h.1 c
      exact h
    · have h := h.2 c
      refine xG_aload_n d_RF_perform_28 rfl rfl rfl ?_
      refine xG_bipush (v := 97) d_RF_perform_29 rfl ?_
      refine xG_aload_n d_RF_perform_31 rfl rfl rfl ?_
      obtain ⟨Q3, hM, h⟩ := h
      refine xG_callv (as := []) (rest := [xi 97, xq (some 250)]) d_RF_perform_32 yv_RF_bind w5_11 rfl rfl rfl s0_250 (by decide) rfl hM ⟨by decide, by decide⟩ (Nat.le_of_ble_eq_true rfl) ⟨Nat.zero_le _, Nat.zero_le _⟩ (fun r S3 I3 J3 P3 hp => ?_)
      obtain ⟨rfl, hL3, z3, rfl, hq⟩ := hp
      have h := h z3 I3 J3 P3 hq
      obtain ⟨Q4, hM, h⟩ := h
      refine xG_callv (as := [xi 97, xi z3]) (rest := []) d_RF_perform_35 yv_RF_answer w5_58 rfl rfl rfl s0_250 (by decide) rfl hM ⟨by decide, by decide⟩ (Nat.le_of_ble_eq_true rfl) ⟨Nat.zero_le _, Nat.zero_le _⟩ (fun r S4 I4 J4 P4 hp => ?_)
      obtain ⟨rfl, hL4, rfl, hq⟩ := hp
      have h := h I4 J4 P4 hq
      exact h
set_option maxRecDepth 20000 in
theorem b_RF_perform_38 {l : Launch} {V : xV} {Q : xIt → xJt → xPt → Prop} {I : xIt} {J : xJt} {P : xPt} (hL : xL P)  (h : ((¬ (I 250 9) = 104 → ((¬ (I 250 9) = 74 → G_RF_perform l V Q 76 [(0, xq (some 250))] [] I J P) ∧ ((I 250 9) = 74 → (∃ Q1 : Int32 → xIt → xJt → xPt → Prop, xMet l V y_RF_delete 5 0 0 [xq (some 250)] xS0 I J P (xPi Q1) ∧ ∀ (z1 : Int32) (I1 : xIt) (J1 : xJt) (P1 : xPt), Q1 z1 I1 J1 P1 → (∃ Q2 : xIt → xJt → xPt → Prop, xMet l V y_RF_answer 4 0 0 [xq (some 250), xi 107, xi z1] xS0 I1 J1 P1 (xPv Q2) ∧ ∀ (I2 : xIt) (J2 : xJt) (P2 : xPt), Q2 I2 J2 P2 → G_RF_perform l V Q 76 [(0, xq (some 250))] [] I2 J2 P2))))) ∧ ((I 250 9) = 104 → (∃ Q3 : Int32 → xIt → xJt → xPt → Prop, xMet l V y_RF_add 6 0 0 [xq (some 250)] xS0 I J P (xPi Q3) ∧ ∀ (z3 : Int32) (I3 : xIt) (J3 : xJt) (P3 : xPt), Q3 z3 I3 J3 P3 → (∃ Q4 : xIt → xJt → xPt → Prop, xMet l V y_RF_answer 4 0 0 [xq (some 250), xi 105, xi z3] xS0 I3 J3 P3 (xPv Q4) ∧ ∀ (I4 : xIt) (J4 : xJt) (P4 : xPt), Q4 I4 J4 P4 → ((¬ (I4 250 9) = 74 → G_RF_perform l V Q 76 [(0, xq (some 250))] [] I4 J4 P4) ∧ ((I4 250 9) = 74 → (∃ Q5 : Int32 → xIt → xJt → xPt → Prop, xMet l V y_RF_delete 5 0 0 [xq (some 250)] xS0 I4 J4 P4 (xPi Q5) ∧ ∀ (z5 : Int32) (I5 : xIt) (J5 : xJt) (P5 : xPt), Q5 z5 I5 J5 P5 → (∃ Q6 : xIt → xJt → xPt → Prop, xMet l V y_RF_answer 4 0 0 [xq (some 250), xi 107, xi z5] xS0 I5 J5 P5 (xPv Q6) ∧ ∀ (I6 : xIt) (J6 : xJt) (P6 : xPt), Q6 I6 J6 P6 → G_RF_perform l V Q 76 [(0, xq (some 250))] [] I6 J6 P6))))))))) : G_RF_perform l V Q 38 [(0, xq (some 250))] [] I J P := by
  refine xG_aload_n d_RF_perform_38 rfl rfl rfl ?_
  refine xG_geti d_RF_perform_39 xf_RF_134 rfl s0_250 ?_
  refine xG_bipush (v := 104) d_RF_perform_42 rfl ?_
  refine xG_icmp_ne (tgt := 57) d_RF_perform_44 (by decide) (fun c => ?_) (fun c => ?_)
  · have h := h.1 c
    refine xG_aload_n d_RF_perform_57 rfl rfl rfl ?_
    refine xG_geti d_RF_perform_58 xf_RF_134 rfl s0_250 ?_
    refine xG_bipush (v := 74) d_RF_perform_61 rfl ?_
    refine xG_icmp_ne (tgt := 76) d_RF_perform_63 (by decide) (fun c => ?_) (fun c => ?_)
    · have h := h.1 c
      exact h
    · have h := h.2 c
      refine xG_aload_n d_RF_perform_66 rfl rfl rfl ?_
      refine xG_bipush (v := 107) d_RF_perform_67 rfl ?_
      refine xG_aload_n d_RF_perform_69 rfl rfl rfl ?_
      obtain ⟨Q1, hM, h⟩ := h
      refine xG_callv (as := []) (rest := [xi 107, xq (some 250)]) d_RF_perform_70 yv_RF_delete w5_129 rfl rfl rfl s0_250 (by decide) rfl hM ⟨by decide, by decide⟩ (Nat.le_of_ble_eq_true rfl) ⟨Nat.zero_le _, Nat.zero_le _⟩ (fun r S1 I1 J1 P1 hp => ?_)
      obtain ⟨rfl, hL1, z1, rfl, hq⟩ := hp
      have h := h z1 I1 J1 P1 hq
      obtain ⟨Q2, hM, h⟩ := h
      refine xG_callv (as := [xi 107, xi z1]) (rest := []) d_RF_perform_73 yv_RF_answer w5_58 rfl rfl rfl s0_250 (by decide) rfl hM ⟨by decide, by decide⟩ (Nat.le_of_ble_eq_true rfl) ⟨Nat.zero_le _, Nat.zero_le _⟩ (fun r S2 I2 J2 P2 hp => ?_)
      obtain ⟨rfl, hL2, rfl, hq⟩ := hp
      have h := h I2 J2 P2 hq
      exact h
  · have h := h.2 c
    refine xG_aload_n d_RF_perform_47 rfl rfl rfl ?_
    refine xG_bipush (v := 105) d_RF_perform_48 rfl ?_
    refine xG_aload_n d_RF_perform_50 rfl rfl rfl ?_
    obtain ⟨Q3, hM, h⟩ := h
    refine xG_callv (as := []) (rest := [xi 105, xq (some 250)]) d_RF_perform_51 yv_RF_add w5_74 rfl rfl rfl s0_250 (by decide) rfl hM ⟨by decide, by decide⟩ (Nat.le_of_ble_eq_true rfl) ⟨Nat.zero_le _, Nat.zero_le _⟩ (fun r S3 I3 J3 P3 hp => ?_)
    obtain ⟨rfl, hL3, z3, rfl, hq⟩ := hp
    have h := h z3 I3 J3 P3 hq
    obtain ⟨Q4, hM, h⟩ := h
    refine xG_callv (as := [xi 105, xi z3]) (rest := []) d_RF_perform_54 yv_RF_answer w5_58 rfl rfl rfl s0_250 (by decide) rfl hM ⟨by decide, by decide⟩ (Nat.le_of_ble_eq_true rfl) ⟨Nat.zero_le _, Nat.zero_le _⟩ (fun r S4 I4 J4 P4 hp => ?_)
    obtain ⟨rfl, hL4, rfl, hq⟩ := hp
    have h := h I4 J4 P4 hq
    refine xG_aload_n d_RF_perform_57 rfl rfl rfl ?_
    refine xG_geti d_RF_perform_58 xf_RF_134 rfl s0_250 ?_
    refine xG_bipush (v := 74) d_RF_perform_61 rfl ?_
    refine xG_icmp_ne (tgt := 76) d_RF_perform_63 (by decide) (fun c => ?_) (fun c => ?_)
    · have h := h.1 c
      exact h
    · have h := h.2 c
      refine xG_aload_n d_RF_perform_66 rfl rfl rfl ?_
      refine xG_bipush (v := 107) d_RF_perform_67 rfl ?_
      refine xG_aload_n d_RF_perform_69 rfl rfl rfl ?_
      obtain ⟨Q5, hM, h⟩ := h
      refine xG_callv (as := []) (rest := [xi 107, xq (some 250)]) d_RF_perform_70 yv_RF_delete w5_129 rfl rfl rfl s0_250 (by decide) rfl hM ⟨by decide, by decide⟩ (Nat.le_of_ble_eq_true rfl) ⟨Nat.zero_le _, Nat.zero_le _⟩ (fun r S5 I5 J5 P5 hp => ?_)
      obtain ⟨rfl, hL5, z5, rfl, hq⟩ := hp
      have h := h z5 I5 J5 P5 hq
      obtain ⟨Q6, hM, h⟩ := h
      refine xG_callv (as := [xi 107, xi z5]) (rest := []) d_RF_perform_73 yv_RF_answer w5_58 rfl rfl rfl s0_250 (by decide) rfl hM ⟨by decide, by decide⟩ (Nat.le_of_ble_eq_true rfl) ⟨Nat.zero_le _, Nat.zero_le _⟩ (fun r S6 I6 J6 P6 hp => ?_)
      obtain ⟨rfl, hL6, rfl, hq⟩ := hp
      have h := h I6 J6 P6 hq
      exact h
set_option maxRecDepth 20000 in
theorem b_RF_perform_76 {l : Launch} {V : xV} {Q : xIt → xJt → xPt → Prop} {I : xIt} {J : xJt} {P : xPt} (hL : xL P)  (h : ((¬ (I 250 9) = 102 → ((¬ (I 250 9) = 108 → G_RF_perform l V Q 114 [(0, xq (some 250))] [] I J P) ∧ ((I 250 9) = 108 → (∃ Q1 : Int32 → xIt → xJt → xPt → Prop, xMet l V y_RF_rename 5 0 0 [xq (some 250)] xS0 I J P (xPi Q1) ∧ ∀ (z1 : Int32) (I1 : xIt) (J1 : xJt) (P1 : xPt), Q1 z1 I1 J1 P1 → (∃ Q2 : xIt → xJt → xPt → Prop, xMet l V y_RF_answer 4 0 0 [xq (some 250), xi 109, xi z1] xS0 I1 J1 P1 (xPv Q2) ∧ ∀ (I2 : xIt) (J2 : xJt) (P2 : xPt), Q2 I2 J2 P2 → G_RF_perform l V Q 114 [(0, xq (some 250))] [] I2 J2 P2))))) ∧ ((I 250 9) = 102 → (∃ Q3 : Int32 → xIt → xJt → xPt → Prop, xMet l V y_RF_modify 6 0 0 [xq (some 250)] xS0 I J P (xPi Q3) ∧ ∀ (z3 : Int32) (I3 : xIt) (J3 : xJt) (P3 : xPt), Q3 z3 I3 J3 P3 → (∃ Q4 : xIt → xJt → xPt → Prop, xMet l V y_RF_answer 4 0 0 [xq (some 250), xi 103, xi z3] xS0 I3 J3 P3 (xPv Q4) ∧ ∀ (I4 : xIt) (J4 : xJt) (P4 : xPt), Q4 I4 J4 P4 → ((¬ (I4 250 9) = 108 → G_RF_perform l V Q 114 [(0, xq (some 250))] [] I4 J4 P4) ∧ ((I4 250 9) = 108 → (∃ Q5 : Int32 → xIt → xJt → xPt → Prop, xMet l V y_RF_rename 5 0 0 [xq (some 250)] xS0 I4 J4 P4 (xPi Q5) ∧ ∀ (z5 : Int32) (I5 : xIt) (J5 : xJt) (P5 : xPt), Q5 z5 I5 J5 P5 → (∃ Q6 : xIt → xJt → xPt → Prop, xMet l V y_RF_answer 4 0 0 [xq (some 250), xi 109, xi z5] xS0 I5 J5 P5 (xPv Q6) ∧ ∀ (I6 : xIt) (J6 : xJt) (P6 : xPt), Q6 I6 J6 P6 → G_RF_perform l V Q 114 [(0, xq (some 250))] [] I6 J6 P6))))))))) : G_RF_perform l V Q 76 [(0, xq (some 250))] [] I J P := by
  refine xG_aload_n d_RF_perform_76 rfl rfl rfl ?_
  refine xG_geti d_RF_perform_77 xf_RF_134 rfl s0_250 ?_
  refine xG_bipush (v := 102) d_RF_perform_80 rfl ?_
  refine xG_icmp_ne (tgt := 95) d_RF_perform_82 (by decide) (fun c => ?_) (fun c => ?_)
  · have h := h.1 c
    refine xG_aload_n d_RF_perform_95 rfl rfl rfl ?_
    refine xG_geti d_RF_perform_96 xf_RF_134 rfl s0_250 ?_
    refine xG_bipush (v := 108) d_RF_perform_99 rfl ?_
    refine xG_icmp_ne (tgt := 114) d_RF_perform_101 (by decide) (fun c => ?_) (fun c => ?_)
    · have h := h.1 c
      exact h
    · have h := h.2 c
      refine xG_aload_n d_RF_perform_104 rfl rfl rfl ?_
      refine xG_bipush (v := 109) d_RF_perform_105 rfl ?_
      refine xG_aload_n d_RF_perform_107 rfl rfl rfl ?_
      obtain ⟨Q1, hM, h⟩ := h
      refine xG_callv (as := []) (rest := [xi 109, xq (some 250)]) d_RF_perform_108 yv_RF_rename w5_145 rfl rfl rfl s0_250 (by decide) rfl hM ⟨by decide, by decide⟩ (Nat.le_of_ble_eq_true rfl) ⟨Nat.zero_le _, Nat.zero_le _⟩ (fun r S1 I1 J1 P1 hp => ?_)
      obtain ⟨rfl, hL1, z1, rfl, hq⟩ := hp
      have h := h z1 I1 J1 P1 hq
      obtain ⟨Q2, hM, h⟩ := h
      refine xG_callv (as := [xi 109, xi z1]) (rest := []) d_RF_perform_111 yv_RF_answer w5_58 rfl rfl rfl s0_250 (by decide) rfl hM ⟨by decide, by decide⟩ (Nat.le_of_ble_eq_true rfl) ⟨Nat.zero_le _, Nat.zero_le _⟩ (fun r S2 I2 J2 P2 hp => ?_)
      obtain ⟨rfl, hL2, rfl, hq⟩ := hp
      have h := h I2 J2 P2 hq
      exact h
  · have h := h.2 c
    refine xG_aload_n d_RF_perform_85 rfl rfl rfl ?_
    refine xG_bipush (v := 103) d_RF_perform_86 rfl ?_
    refine xG_aload_n d_RF_perform_88 rfl rfl rfl ?_
    obtain ⟨Q3, hM, h⟩ := h
    refine xG_callv (as := []) (rest := [xi 103, xq (some 250)]) d_RF_perform_89 yv_RF_modify w5_133 rfl rfl rfl s0_250 (by decide) rfl hM ⟨by decide, by decide⟩ (Nat.le_of_ble_eq_true rfl) ⟨Nat.zero_le _, Nat.zero_le _⟩ (fun r S3 I3 J3 P3 hp => ?_)
    obtain ⟨rfl, hL3, z3, rfl, hq⟩ := hp
    have h := h z3 I3 J3 P3 hq
    obtain ⟨Q4, hM, h⟩ := h
    refine xG_callv (as := [xi 103, xi z3]) (rest := []) d_RF_perform_92 yv_RF_answer w5_58 rfl rfl rfl s0_250 (by decide) rfl hM ⟨by decide, by decide⟩ (Nat.le_of_ble_eq_true rfl) ⟨Nat.zero_le _, Nat.zero_le _⟩ (fun r S4 I4 J4 P4 hp => ?_)
    obtain ⟨rfl, hL4, rfl, hq⟩ := hp
    have h := h I4 J4 P4 hq
    refine xG_aload_n d_RF_perform_95 rfl rfl rfl ?_
    refine xG_geti d_RF_perform_96 xf_RF_134 rfl s0_250 ?_
    refine xG_bipush (v := 108) d_RF_perform_99 rfl ?_
    refine xG_icmp_ne (tgt := 114) d_RF_perform_101 (by decide) (fun c => ?_) (fun c => ?_)
    · have h := h.1 c
      exact h
    · have h := h.2 c
      refine xG_aload_n d_RF_perform_104 rfl rfl rfl ?_
      refine xG_bipush (v := 109) d_RF_perform_105 rfl ?_
      refine xG_aload_n d_RF_perform_107 rfl rfl rfl ?_
      obtain ⟨Q5, hM, h⟩ := h
      refine xG_callv (as := []) (rest := [xi 109, xq (some 250)]) d_RF_perform_108 yv_RF_rename w5_145 rfl rfl rfl s0_250 (by decide) rfl hM ⟨by decide, by decide⟩ (Nat.le_of_ble_eq_true rfl) ⟨Nat.zero_le _, Nat.zero_le _⟩ (fun r S5 I5 J5 P5 hp => ?_)
      obtain ⟨rfl, hL5, z5, rfl, hq⟩ := hp
      have h := h z5 I5 J5 P5 hq
      obtain ⟨Q6, hM, h⟩ := h
      refine xG_callv (as := [xi 109, xi z5]) (rest := []) d_RF_perform_111 yv_RF_answer w5_58 rfl rfl rfl s0_250 (by decide) rfl hM ⟨by decide, by decide⟩ (Nat.le_of_ble_eq_true rfl) ⟨Nat.zero_le _, Nat.zero_le _⟩ (fun r S6 I6 J6 P6 hp => ?_)
      obtain ⟨rfl, hL6, rfl, hq⟩ := hp
      have h := h I6 J6 P6 hq
      exact h
set_option maxRecDepth 20000 in
theorem b_RF_perform_114 {l : Launch} {V : xV} {Q : xIt → xJt → xPt → Prop} {I : xIt} {J : xJt} {P : xPt} (hL : xL P)  (h : ((¬ (I 250 9) = 110 → ((¬ (I 250 9) = 99 → Q I J P) ∧ ((I 250 9) = 99 → (∃ Q1 : Int32 → xIt → xJt → xPt → Prop, xMet l V y_RF_search 6 0 0 [xq (some 250)] xS0 I J P (xPi Q1) ∧ ∀ (z1 : Int32) (I1 : xIt) (J1 : xJt) (P1 : xPt), Q1 z1 I1 J1 P1 → (∃ Q2 : xIt → xJt → xPt → Prop, xMet l V y_RF_answer 4 0 0 [xq (some 250), xi 101, xi z1] xS0 I1 J1 P1 (xPv Q2) ∧ ∀ (I2 : xIt) (J2 : xJt) (P2 : xPt), Q2 I2 J2 P2 → Q I2 J2 P2))))) ∧ ((I 250 9) = 110 → (∃ Q3 : Int32 → xIt → xJt → xPt → Prop, xMet l V y_RF_compare 5 0 0 [xq (some 250)] xS0 I J P (xPi Q3) ∧ ∀ (z3 : Int32) (I3 : xIt) (J3 : xJt) (P3 : xPt), Q3 z3 I3 J3 P3 → (∃ Q4 : xIt → xJt → xPt → Prop, xMet l V y_RF_answer 4 0 0 [xq (some 250), xi 111, xi z3] xS0 I3 J3 P3 (xPv Q4) ∧ ∀ (I4 : xIt) (J4 : xJt) (P4 : xPt), Q4 I4 J4 P4 → ((¬ (I4 250 9) = 99 → Q I4 J4 P4) ∧ ((I4 250 9) = 99 → (∃ Q5 : Int32 → xIt → xJt → xPt → Prop, xMet l V y_RF_search 6 0 0 [xq (some 250)] xS0 I4 J4 P4 (xPi Q5) ∧ ∀ (z5 : Int32) (I5 : xIt) (J5 : xJt) (P5 : xPt), Q5 z5 I5 J5 P5 → (∃ Q6 : xIt → xJt → xPt → Prop, xMet l V y_RF_answer 4 0 0 [xq (some 250), xi 101, xi z5] xS0 I5 J5 P5 (xPv Q6) ∧ ∀ (I6 : xIt) (J6 : xJt) (P6 : xPt), Q6 I6 J6 P6 → Q I6 J6 P6))))))))) : G_RF_perform l V Q 114 [(0, xq (some 250))] [] I J P := by
  refine xG_aload_n d_RF_perform_114 rfl rfl rfl ?_
  refine xG_geti d_RF_perform_115 xf_RF_134 rfl s0_250 ?_
  refine xG_bipush (v := 110) d_RF_perform_118 rfl ?_
  refine xG_icmp_ne (tgt := 133) d_RF_perform_120 (by decide) (fun c => ?_) (fun c => ?_)
  · have h := h.1 c
    refine xG_aload_n d_RF_perform_133 rfl rfl rfl ?_
    refine xG_geti d_RF_perform_134 xf_RF_134 rfl s0_250 ?_
    refine xG_bipush (v := 99) d_RF_perform_137 rfl ?_
    refine xG_icmp_ne (tgt := 152) d_RF_perform_139 (by decide) (fun c => ?_) (fun c => ?_)
    · have h := h.1 c
      exact xG_return d_RF_perform_152 rfl ⟨rfl, hL, rfl, h⟩
    · have h := h.2 c
      refine xG_aload_n d_RF_perform_142 rfl rfl rfl ?_
      refine xG_bipush (v := 101) d_RF_perform_143 rfl ?_
      refine xG_aload_n d_RF_perform_145 rfl rfl rfl ?_
      obtain ⟨Q1, hM, h⟩ := h
      refine xG_callv (as := []) (rest := [xi 101, xq (some 250)]) d_RF_perform_146 yv_RF_search w5_153 rfl rfl rfl s0_250 (by decide) rfl hM ⟨by decide, by decide⟩ (Nat.le_of_ble_eq_true rfl) ⟨Nat.zero_le _, Nat.zero_le _⟩ (fun r S1 I1 J1 P1 hp => ?_)
      obtain ⟨rfl, hL1, z1, rfl, hq⟩ := hp
      have h := h z1 I1 J1 P1 hq
      obtain ⟨Q2, hM, h⟩ := h
      refine xG_callv (as := [xi 101, xi z1]) (rest := []) d_RF_perform_149 yv_RF_answer w5_58 rfl rfl rfl s0_250 (by decide) rfl hM ⟨by decide, by decide⟩ (Nat.le_of_ble_eq_true rfl) ⟨Nat.zero_le _, Nat.zero_le _⟩ (fun r S2 I2 J2 P2 hp => ?_)
      obtain ⟨rfl, hL2, rfl, hq⟩ := hp
      have h := h I2 J2 P2 hq
      exact xG_return d_RF_perform_152 rfl ⟨rfl, hL2, rfl, h⟩
  · have h := h.2 c
    refine xG_aload_n d_RF_perform_123 rfl rfl rfl ?_
    refine xG_bipush (v := 111) d_RF_perform_124 rfl ?_
    refine xG_aload_n d_RF_perform_126 rfl rfl rfl ?_
    obtain ⟨Q3, hM, h⟩ := h
    refine xG_callv (as := []) (rest := [xi 111, xq (some 250)]) d_RF_perform_127 yv_RF_compare w5_149 rfl rfl rfl s0_250 (by decide) rfl hM ⟨by decide, by decide⟩ (Nat.le_of_ble_eq_true rfl) ⟨Nat.zero_le _, Nat.zero_le _⟩ (fun r S3 I3 J3 P3 hp => ?_)
    obtain ⟨rfl, hL3, z3, rfl, hq⟩ := hp
    have h := h z3 I3 J3 P3 hq
    obtain ⟨Q4, hM, h⟩ := h
    refine xG_callv (as := [xi 111, xi z3]) (rest := []) d_RF_perform_130 yv_RF_answer w5_58 rfl rfl rfl s0_250 (by decide) rfl hM ⟨by decide, by decide⟩ (Nat.le_of_ble_eq_true rfl) ⟨Nat.zero_le _, Nat.zero_le _⟩ (fun r S4 I4 J4 P4 hp => ?_)
    obtain ⟨rfl, hL4, rfl, hq⟩ := hp
    have h := h I4 J4 P4 hq
    refine xG_aload_n d_RF_perform_133 rfl rfl rfl ?_
    refine xG_geti d_RF_perform_134 xf_RF_134 rfl s0_250 ?_
    refine xG_bipush (v := 99) d_RF_perform_137 rfl ?_
    refine xG_icmp_ne (tgt := 152) d_RF_perform_139 (by decide) (fun c => ?_) (fun c => ?_)
    · have h := h.1 c
      exact xG_return d_RF_perform_152 rfl ⟨rfl, hL4, rfl, h⟩
    · have h := h.2 c
      refine xG_aload_n d_RF_perform_142 rfl rfl rfl ?_
      refine xG_bipush (v := 101) d_RF_perform_143 rfl ?_
      refine xG_aload_n d_RF_perform_145 rfl rfl rfl ?_
      obtain ⟨Q5, hM, h⟩ := h
      refine xG_callv (as := []) (rest := [xi 101, xq (some 250)]) d_RF_perform_146 yv_RF_search w5_153 rfl rfl rfl s0_250 (by decide) rfl hM ⟨by decide, by decide⟩ (Nat.le_of_ble_eq_true rfl) ⟨Nat.zero_le _, Nat.zero_le _⟩ (fun r S5 I5 J5 P5 hp => ?_)
      obtain ⟨rfl, hL5, z5, rfl, hq⟩ := hp
      have h := h z5 I5 J5 P5 hq
      obtain ⟨Q6, hM, h⟩ := h
      refine xG_callv (as := [xi 101, xi z5]) (rest := []) d_RF_perform_149 yv_RF_answer w5_58 rfl rfl rfl s0_250 (by decide) rfl hM ⟨by decide, by decide⟩ (Nat.le_of_ble_eq_true rfl) ⟨Nat.zero_le _, Nat.zero_le _⟩ (fun r S6 I6 J6 P6 hp => ?_)
      obtain ⟨rfl, hL6, rfl, hq⟩ := hp
      have h := h I6 J6 P6 hq
      exact xG_return d_RF_perform_152 rfl ⟨rfl, hL6, rfl, h⟩
theorem e_RF_perform {l : Launch} {V : xV} {Q : xIt → xJt → xPt → Prop} {I : xIt} {J : xJt} {P : xPt}  (h : G_RF_perform l V Q 0 [(0, xq (some 250))] [] I J P) : xMet l V y_RF_perform 7 0 0 [xq (some 250)] xS0 I J P (xPv Q) := xMet_of (by decide) (Nat.le_of_ble_eq_true rfl) h

abbrev G_RF_comes (l : Launch) (V : xV) (Q : Int32 → xIt → xJt → xPt → Prop) (pc : Nat) (lv : List (Nat × xX)) (st : List xX) (I : xIt) (J : xJt) (P : xPt) : Prop := xG l V y_RF_comes (xR 8 0 0) (xFn V y_RF_comes (xR 8 0 0) (xPi Q)) pc lv st xS0 I J P (0, 0)
set_option maxRecDepth 20000 in
theorem b_RF_comes_0 {l : Launch} {V : xV} {Q : Int32 → xIt → xJt → xPt → Prop} {I : xIt} {J : xJt} {P : xPt} (hL : xL P) {v1 : Int32} (h : (((I 250 0) = 0 → (vp_in (I 250 1) 160 ∧ ((((I 250 1) + 1) ≤ 1 → G_RF_comes l V Q 54 [(0, xq (some 250)), (1, xi v1)] [xi 0] (xu (xu I 251 ((I 250 1).toNatClampNeg) v1) 250 1 ((I 250 1) + 1)) J P) ∧ (¬ ((I 250 1) + 1) ≤ 1 → ((¬ ((xu I 251 ((I 250 1).toNatClampNeg) v1) 251 1) = 129 → G_RF_comes l V Q 54 [(0, xq (some 250)), (1, xi v1)] [xi 0] (xu (xu I 251 ((I 250 1).toNatClampNeg) v1) 250 1 ((I 250 1) + 1)) J P) ∧ (((xu I 251 ((I 250 1).toNatClampNeg) v1) 251 1) = 129 → G_RF_comes l V Q 54 [(0, xq (some 250)), (1, xi v1)] [xi 1] (xu (xu I 251 ((I 250 1).toNatClampNeg) v1) 250 1 ((I 250 1) + 1)) J P)))))) ∧ (¬ (I 250 0) = 0 → Q 0 I J P))) : G_RF_comes l V Q 0 [(0, xq (some 250)), (1, xi v1)] [] I J P := by
  refine xG_aload_n d_RF_comes_0 rfl rfl rfl ?_
  refine xG_geti d_RF_comes_1 xf_RF_326 rfl s0_250 ?_
  refine xG_if_eq (tgt := 9) d_RF_comes_4 (by decide) (fun c => ?_) (fun c => ?_)
  · have h := h.1 c
    refine xG_aload_n d_RF_comes_9 rfl rfl rfl ?_
    refine xG_getq d_RF_comes_10 xf_RF_7 rfl s0_250 ?_
    refine xG_aload_n d_RF_comes_13 rfl rfl rfl ?_
    refine xG_geti d_RF_comes_14 xf_RF_354 rfl s0_250 ?_
    refine xG_iload_n d_RF_comes_17 rfl rfl ?_
    refine xG_iast d_RF_comes_18 (lp_250_2 hL) s0_251 h.1 ?_
    have h := h.2
    refine xG_aload_n d_RF_comes_19 rfl rfl rfl ?_
    refine xG_dup d_RF_comes_20 rfl ?_
    refine xG_geti d_RF_comes_21 xf_RF_354 rfl s0_250 ?_
    refine xG_topi (x' := I 250 1) (by first | rfl | exact xu_at | simp [xu]) ?_
    refine xG_iconst (v := 1) d_RF_comes_24 rfl ?_
    refine xG_iadd d_RF_comes_25 ?_
    refine xG_puti d_RF_comes_26 xf_RF_354 (Or.inl rfl) rfl s0_250 rfl rfl ?_
    refine xG_aload_n d_RF_comes_29 rfl rfl rfl ?_
    refine xG_geti d_RF_comes_30 xf_RF_354 rfl s0_250 ?_
    refine xG_topi (x' := (I 250 1) + 1) (by first | rfl | exact xu_at | simp [xu]) ?_
    refine xG_iconst (v := 1) d_RF_comes_33 rfl ?_
    refine xG_icmp_le (tgt := 53) d_RF_comes_34 (by decide) (fun c => ?_) (fun c => ?_)
    · have h := h.1 c
      refine xG_iconst (v := 0) d_RF_comes_53 rfl ?_
      exact h
    · have h := h.2 c
      refine xG_aload_n d_RF_comes_37 rfl rfl rfl ?_
      refine xG_getq d_RF_comes_38 xf_RF_7 rfl s0_250 ?_
      refine xG_iconst (v := 1) d_RF_comes_41 rfl ?_
      refine xG_iald d_RF_comes_42 (lp_250_2 hL) s0_251 (x_vp (by decide)) ?_
      refine xG_topi (x' := (xu I 251 ((I 250 1).toNatClampNeg) v1) 251 1) (by first | rfl | exact xu_at | simp [xu]) ?_
      refine xG_sipush (v := 129) d_RF_comes_43 rfl ?_
      refine xG_icmp_ne (tgt := 53) d_RF_comes_46 (by decide) (fun c => ?_) (fun c => ?_)
      · have h := h.1 c
        refine xG_iconst (v := 0) d_RF_comes_53 rfl ?_
        exact h
      · have h := h.2 c
        refine xG_iconst (v := 1) d_RF_comes_49 rfl ?_
        refine xG_goto (tgt := 54) d_RF_comes_50 (by decide) ?_
        exact h
  · have h := h.2 c
    refine xG_iconst (v := 0) d_RF_comes_7 rfl ?_
    exact xG_ireturn d_RF_comes_8 rfl rfl ⟨rfl, hL, _, rfl, h⟩
set_option maxRecDepth 20000 in
theorem b_RF_comes_54 {l : Launch} {V : xV} {Q : Int32 → xIt → xJt → xPt → Prop} {I : xIt} {J : xJt} {P : xPt} (hL : xL P) {v1 : Int32} {u0 : Int32} (h : ((¬ (I 251 0) = 48 → ((u0 = 0 → G_RF_comes l V Q 128 [(0, xq (some 250)), (1, xi v1), (2, xi u0), (3, xi 1)] [xi 2] I J P) ∧ (¬ u0 = 0 → G_RF_comes l V Q 128 [(0, xq (some 250)), (1, xi v1), (2, xi u0), (3, xi 1)] [xi 3] I J P))) ∧ ((I 251 0) = 48 → (((I 250 1) ≤ 1 → G_RF_comes l V Q 89 [(0, xq (some 250)), (1, xi v1), (2, xi u0)] [] I J P) ∧ (¬ (I 250 1) ≤ 1 → (((I 251 1) ≤ 127 → G_RF_comes l V Q 89 [(0, xq (some 250)), (1, xi v1), (2, xi u0)] [] I J P) ∧ (¬ (I 251 1) ≤ 127 → ((u0 = 0 → ((u0 = 0 → G_RF_comes l V Q 128 [(0, xq (some 250)), (1, xi v1), (2, xi u0), (3, xi 1)] [xi 2] I J P) ∧ (¬ u0 = 0 → G_RF_comes l V Q 128 [(0, xq (some 250)), (1, xi v1), (2, xi u0), (3, xi 1)] [xi 3] I J P))) ∧ (¬ u0 = 0 → G_RF_comes l V Q 89 [(0, xq (some 250)), (1, xi v1), (2, xi u0)] [] I J P))))))))) : G_RF_comes l V Q 54 [(0, xq (some 250)), (1, xi v1)] [xi u0] I J P := by
  refine xG_istore_n (lv' := [(2, xi u0), (0, xq (some 250)), (1, xi v1)]) d_RF_comes_54 rfl (Nat.le_of_ble_eq_true rfl) rfl ?_
  refine xG_aload_n d_RF_comes_55 rfl rfl rfl ?_
  refine xG_getq d_RF_comes_56 xf_RF_7 rfl s0_250 ?_
  refine xG_iconst (v := 0) d_RF_comes_59 rfl ?_
  refine xG_iald d_RF_comes_60 (lp_250_2 hL) s0_251 (x_vp (by decide)) ?_
  refine xG_topi (x' := I 251 0) (by first | rfl | exact xu_at | simp [xu]) ?_
  refine xG_bipush (v := 48) d_RF_comes_61 rfl ?_
  refine xG_icmp_ne (tgt := 113) d_RF_comes_63 (by decide) (fun c => ?_) (fun c => ?_)
  · have h := h.1 c
    refine xG_iconst (v := 1) d_RF_comes_113 rfl ?_
    refine xG_goto (tgt := 118) d_RF_comes_114 (by decide) ?_
    refine xG_istore_n (lv' := [(3, xi 1), (2, xi u0), (0, xq (some 250)), (1, xi v1)]) d_RF_comes_118 rfl (Nat.le_of_ble_eq_true rfl) rfl ?_
    refine xG_iload_n d_RF_comes_119 rfl rfl ?_
    refine xG_if_eq (tgt := 127) d_RF_comes_120 (by decide) (fun c => ?_) (fun c => ?_)
    · have h := h.1 c
      refine xG_iconst (v := 2) d_RF_comes_127 rfl ?_
      refine xG_pick [2, 3, 1, 0] rfl ?_
      exact h
    · have h := h.2 c
      refine xG_iconst (v := 3) d_RF_comes_123 rfl ?_
      refine xG_goto (tgt := 128) d_RF_comes_124 (by decide) ?_
      refine xG_pick [2, 3, 1, 0] rfl ?_
      exact h
  · have h := h.2 c
    refine xG_aload_n d_RF_comes_66 rfl rfl rfl ?_
    refine xG_geti d_RF_comes_67 xf_RF_354 rfl s0_250 ?_
    refine xG_iconst (v := 1) d_RF_comes_70 rfl ?_
    refine xG_icmp_le (tgt := 89) d_RF_comes_71 (by decide) (fun c => ?_) (fun c => ?_)
    · have h := h.1 c
      refine xG_pick [1, 2, 0] rfl ?_
      exact h
    · have h := h.2 c
      refine xG_aload_n d_RF_comes_74 rfl rfl rfl ?_
      refine xG_getq d_RF_comes_75 xf_RF_7 rfl s0_250 ?_
      refine xG_iconst (v := 1) d_RF_comes_78 rfl ?_
      refine xG_iald d_RF_comes_79 (lp_250_2 hL) s0_251 (x_vp (by decide)) ?_
      refine xG_topi (x' := I 251 1) (by first | rfl | exact xu_at | simp [xu]) ?_
      refine xG_bipush (v := 127) d_RF_comes_80 rfl ?_
      refine xG_icmp_le (tgt := 89) d_RF_comes_82 (by decide) (fun c => ?_) (fun c => ?_)
      · have h := h.1 c
        refine xG_pick [1, 2, 0] rfl ?_
        exact h
      · have h := h.2 c
        refine xG_iload_n d_RF_comes_85 rfl rfl ?_
        refine xG_if_eq (tgt := 113) d_RF_comes_86 (by decide) (fun c => ?_) (fun c => ?_)
        · have h := h.1 c
          refine xG_iconst (v := 1) d_RF_comes_113 rfl ?_
          refine xG_goto (tgt := 118) d_RF_comes_114 (by decide) ?_
          refine xG_istore_n (lv' := [(3, xi 1), (2, xi u0), (0, xq (some 250)), (1, xi v1)]) d_RF_comes_118 rfl (Nat.le_of_ble_eq_true rfl) rfl ?_
          refine xG_iload_n d_RF_comes_119 rfl rfl ?_
          refine xG_if_eq (tgt := 127) d_RF_comes_120 (by decide) (fun c => ?_) (fun c => ?_)
          · have h := h.1 c
            refine xG_iconst (v := 2) d_RF_comes_127 rfl ?_
            refine xG_pick [2, 3, 1, 0] rfl ?_
            exact h
          · have h := h.2 c
            refine xG_iconst (v := 3) d_RF_comes_123 rfl ?_
            refine xG_goto (tgt := 128) d_RF_comes_124 (by decide) ?_
            refine xG_pick [2, 3, 1, 0] rfl ?_
            exact h
        · have h := h.2 c
          refine xG_pick [1, 2, 0] rfl ?_
          exact h
set_option maxRecDepth 20000 in
theorem b_RF_comes_89 {l : Launch} {V : xV} {Q : Int32 → xIt → xJt → xPt → Prop} {I : xIt} {J : xJt} {P : xPt} (hL : xL P) {v1 : Int32} {v2 : Int32} (h : ((v2 = 0 → ((v2 = 0 → G_RF_comes l V Q 128 [(0, xq (some 250)), (1, xi v1), (2, xi v2), (3, xi 0)] [xi 2] I J P) ∧ (¬ v2 = 0 → G_RF_comes l V Q 128 [(0, xq (some 250)), (1, xi v1), (2, xi v2), (3, xi 0)] [xi 3] I J P))) ∧ (¬ v2 = 0 → (((I 250 1) ≤ 2 → ((v2 = 0 → G_RF_comes l V Q 128 [(0, xq (some 250)), (1, xi v1), (2, xi v2), (3, xi 0)] [xi 2] I J P) ∧ (¬ v2 = 0 → G_RF_comes l V Q 128 [(0, xq (some 250)), (1, xi v1), (2, xi v2), (3, xi 0)] [xi 3] I J P))) ∧ (¬ (I 250 1) ≤ 2 → (((I 251 2) ≤ 150 → ((v2 = 0 → G_RF_comes l V Q 128 [(0, xq (some 250)), (1, xi v1), (2, xi v2), (3, xi 0)] [xi 2] I J P) ∧ (¬ v2 = 0 → G_RF_comes l V Q 128 [(0, xq (some 250)), (1, xi v1), (2, xi v2), (3, xi 0)] [xi 3] I J P))) ∧ (¬ (I 251 2) ≤ 150 → ((v2 = 0 → G_RF_comes l V Q 128 [(0, xq (some 250)), (1, xi v1), (2, xi v2), (3, xi 1)] [xi 2] I J P) ∧ (¬ v2 = 0 → G_RF_comes l V Q 128 [(0, xq (some 250)), (1, xi v1), (2, xi v2), (3, xi 1)] [xi 3] I J P))))))))) : G_RF_comes l V Q 89 [(0, xq (some 250)), (1, xi v1), (2, xi v2)] [] I J P := by
  refine xG_iload_n d_RF_comes_89 rfl rfl ?_
  refine xG_if_eq (tgt := 117) d_RF_comes_90 (by decide) (fun c => ?_) (fun c => ?_)
  · have h := h.1 c
    refine xG_iconst (v := 0) d_RF_comes_117 rfl ?_
    refine xG_istore_n (lv' := [(3, xi 0), (0, xq (some 250)), (1, xi v1), (2, xi v2)]) d_RF_comes_118 rfl (Nat.le_of_ble_eq_true rfl) rfl ?_
    refine xG_iload_n d_RF_comes_119 rfl rfl ?_
    refine xG_if_eq (tgt := 127) d_RF_comes_120 (by decide) (fun c => ?_) (fun c => ?_)
    · have h := h.1 c
      refine xG_iconst (v := 2) d_RF_comes_127 rfl ?_
      refine xG_pick [1, 2, 3, 0] rfl ?_
      exact h
    · have h := h.2 c
      refine xG_iconst (v := 3) d_RF_comes_123 rfl ?_
      refine xG_goto (tgt := 128) d_RF_comes_124 (by decide) ?_
      refine xG_pick [1, 2, 3, 0] rfl ?_
      exact h
  · have h := h.2 c
    refine xG_aload_n d_RF_comes_93 rfl rfl rfl ?_
    refine xG_geti d_RF_comes_94 xf_RF_354 rfl s0_250 ?_
    refine xG_iconst (v := 2) d_RF_comes_97 rfl ?_
    refine xG_icmp_le (tgt := 117) d_RF_comes_98 (by decide) (fun c => ?_) (fun c => ?_)
    · have h := h.1 c
      refine xG_iconst (v := 0) d_RF_comes_117 rfl ?_
      refine xG_istore_n (lv' := [(3, xi 0), (0, xq (some 250)), (1, xi v1), (2, xi v2)]) d_RF_comes_118 rfl (Nat.le_of_ble_eq_true rfl) rfl ?_
      refine xG_iload_n d_RF_comes_119 rfl rfl ?_
      refine xG_if_eq (tgt := 127) d_RF_comes_120 (by decide) (fun c => ?_) (fun c => ?_)
      · have h := h.1 c
        refine xG_iconst (v := 2) d_RF_comes_127 rfl ?_
        refine xG_pick [1, 2, 3, 0] rfl ?_
        exact h
      · have h := h.2 c
        refine xG_iconst (v := 3) d_RF_comes_123 rfl ?_
        refine xG_goto (tgt := 128) d_RF_comes_124 (by decide) ?_
        refine xG_pick [1, 2, 3, 0] rfl ?_
        exact h
    · have h := h.2 c
      refine xG_aload_n d_RF_comes_101 rfl rfl rfl ?_
      refine xG_getq d_RF_comes_102 xf_RF_7 rfl s0_250 ?_
      refine xG_iconst (v := 2) d_RF_comes_105 rfl ?_
      refine xG_iald d_RF_comes_106 (lp_250_2 hL) s0_251 (x_vp (by decide)) ?_
      refine xG_topi (x' := I 251 2) (by first | rfl | exact xu_at | simp [xu]) ?_
      refine xG_sipush (v := 150) d_RF_comes_107 rfl ?_
      refine xG_icmp_le (tgt := 117) d_RF_comes_110 (by decide) (fun c => ?_) (fun c => ?_)
      · have h := h.1 c
        refine xG_iconst (v := 0) d_RF_comes_117 rfl ?_
        refine xG_istore_n (lv' := [(3, xi 0), (0, xq (some 250)), (1, xi v1), (2, xi v2)]) d_RF_comes_118 rfl (Nat.le_of_ble_eq_true rfl) rfl ?_
        refine xG_iload_n d_RF_comes_119 rfl rfl ?_
        refine xG_if_eq (tgt := 127) d_RF_comes_120 (by decide) (fun c => ?_) (fun c => ?_)
        · have h := h.1 c
          refine xG_iconst (v := 2) d_RF_comes_127 rfl ?_
          refine xG_pick [1, 2, 3, 0] rfl ?_
          exact h
        · have h := h.2 c
          refine xG_iconst (v := 3) d_RF_comes_123 rfl ?_
          refine xG_goto (tgt := 128) d_RF_comes_124 (by decide) ?_
          refine xG_pick [1, 2, 3, 0] rfl ?_
          exact h
      · have h := h.2 c
        refine xG_iconst (v := 1) d_RF_comes_113 rfl ?_
        refine xG_goto (tgt := 118) d_RF_comes_114 (by decide) ?_
        refine xG_istore_n (lv' := [(3, xi 1), (0, xq (some 250)), (1, xi v1), (2, xi v2)]) d_RF_comes_118 rfl (Nat.le_of_ble_eq_true rfl) rfl ?_
        refine xG_iload_n d_RF_comes_119 rfl rfl ?_
        refine xG_if_eq (tgt := 127) d_RF_comes_120 (by decide) (fun c => ?_) (fun c => ?_)
        · have h := h.1 c
          refine xG_iconst (v := 2) d_RF_comes_127 rfl ?_
          refine xG_pick [1, 2, 3, 0] rfl ?_
          exact h
        · have h := h.2 c
          refine xG_iconst (v := 3) d_RF_comes_123 rfl ?_
          refine xG_goto (tgt := 128) d_RF_comes_124 (by decide) ?_
          refine xG_pick [1, 2, 3, 0] rfl ?_
          exact h
set_option maxRecDepth 20000 in
theorem b_RF_comes_128 {l : Launch} {V : xV} {Q : Int32 → xIt → xJt → xPt → Prop} {I : xIt} {J : xJt} {P : xPt} (hL : xL P) {v1 : Int32} {v2 : Int32} {v3 : Int32} {u0 : Int32} (h : ((¬ v3 = 0 → ((¬ v3 = 0 → G_RF_comes l V Q 180 [(0, xq (some 250)), (1, xi v1), (2, xi v2), (3, xi v3), (4, xi u0), (5, xi 0)] [] I J P) ∧ (v3 = 0 → Q 0 I J P))) ∧ (v3 = 0 → (((I 250 1) < u0 → ((¬ v3 = 0 → G_RF_comes l V Q 180 [(0, xq (some 250)), (1, xi v1), (2, xi v2), (3, xi v3), (4, xi u0), (5, xi 0)] [] I J P) ∧ (v3 = 0 → Q 0 I J P))) ∧ (¬ (I 250 1) < u0 → (vp_in (u0 - 1) 160 ∧ ((¬ (I 250 1) = (u0 + (I 251 ((u0 - 1).toNatClampNeg))) → ((¬ v3 = 0 → G_RF_comes l V Q 180 [(0, xq (some 250)), (1, xi v1), (2, xi v2), (3, xi v3), (4, xi u0), (5, xi 0)] [] I J P) ∧ (v3 = 0 → Q 0 I J P))) ∧ ((I 250 1) = (u0 + (I 251 ((u0 - 1).toNatClampNeg))) → ((¬ v3 = 0 → G_RF_comes l V Q 180 [(0, xq (some 250)), (1, xi v1), (2, xi v2), (3, xi v3), (4, xi u0), (5, xi 1)] [] I J P) ∧ (v3 = 0 → G_RF_comes l V Q 180 [(0, xq (some 250)), (1, xi v1), (2, xi v2), (3, xi v3), (4, xi u0), (5, xi 1)] [] I J P)))))))))) : G_RF_comes l V Q 128 [(0, xq (some 250)), (1, xi v1), (2, xi v2), (3, xi v3)] [xi u0] I J P := by
  refine xG_istore (lv' := [(4, xi u0), (0, xq (some 250)), (1, xi v1), (2, xi v2), (3, xi v3)]) d_RF_comes_128 (Nat.le_of_ble_eq_true rfl) rfl ?_
  refine xG_iload_n d_RF_comes_130 rfl rfl ?_
  refine xG_if_ne (tgt := 166) d_RF_comes_131 (by decide) (fun c => ?_) (fun c => ?_)
  · have h := h.1 c
    refine xG_iconst (v := 0) d_RF_comes_166 rfl ?_
    refine xG_istore (lv' := [(5, xi 0), (4, xi u0), (0, xq (some 250)), (1, xi v1), (2, xi v2), (3, xi v3)]) d_RF_comes_167 (Nat.le_of_ble_eq_true rfl) rfl ?_
    refine xG_iload_n d_RF_comes_169 rfl rfl ?_
    refine xG_if_ne (tgt := 180) d_RF_comes_170 (by decide) (fun c => ?_) (fun c => ?_)
    · have h := h.1 c
      refine xG_pick [2, 3, 4, 5, 1, 0] rfl ?_
      exact h
    · have h := h.2 c
      refine xG_iload d_RF_comes_173 rfl ?_
      refine xG_if_ne (tgt := 180) d_RF_comes_175 (by decide) (fun c => absurd c (by decide)) (fun c => ?_)
      refine xG_iconst (v := 0) d_RF_comes_178 rfl ?_
      exact xG_ireturn d_RF_comes_179 rfl rfl ⟨rfl, hL, _, rfl, h⟩
  · have h := h.2 c
    refine xG_aload_n d_RF_comes_134 rfl rfl rfl ?_
    refine xG_geti d_RF_comes_135 xf_RF_354 rfl s0_250 ?_
    refine xG_iload d_RF_comes_138 rfl ?_
    refine xG_icmp_lt (tgt := 166) d_RF_comes_140 (by decide) (fun c => ?_) (fun c => ?_)
    · have h := h.1 c
      refine xG_iconst (v := 0) d_RF_comes_166 rfl ?_
      refine xG_istore (lv' := [(5, xi 0), (4, xi u0), (0, xq (some 250)), (1, xi v1), (2, xi v2), (3, xi v3)]) d_RF_comes_167 (Nat.le_of_ble_eq_true rfl) rfl ?_
      refine xG_iload_n d_RF_comes_169 rfl rfl ?_
      refine xG_if_ne (tgt := 180) d_RF_comes_170 (by decide) (fun c => ?_) (fun c => ?_)
      · have h := h.1 c
        refine xG_pick [2, 3, 4, 5, 1, 0] rfl ?_
        exact h
      · have h := h.2 c
        refine xG_iload d_RF_comes_173 rfl ?_
        refine xG_if_ne (tgt := 180) d_RF_comes_175 (by decide) (fun c => absurd c (by decide)) (fun c => ?_)
        refine xG_iconst (v := 0) d_RF_comes_178 rfl ?_
        exact xG_ireturn d_RF_comes_179 rfl rfl ⟨rfl, hL, _, rfl, h⟩
    · have h := h.2 c
      refine xG_aload_n d_RF_comes_143 rfl rfl rfl ?_
      refine xG_geti d_RF_comes_144 xf_RF_354 rfl s0_250 ?_
      refine xG_iload d_RF_comes_147 rfl ?_
      refine xG_aload_n d_RF_comes_149 rfl rfl rfl ?_
      refine xG_getq d_RF_comes_150 xf_RF_7 rfl s0_250 ?_
      refine xG_iload d_RF_comes_153 rfl ?_
      refine xG_iconst (v := 1) d_RF_comes_155 rfl ?_
      refine xG_isub d_RF_comes_156 ?_
      refine xG_iald d_RF_comes_157 (lp_250_2 hL) s0_251 h.1 ?_
      have h := h.2
      refine xG_topi (x' := I 251 ((u0 - 1).toNatClampNeg)) (by first | rfl | exact xu_at | simp [xu]) ?_
      refine xG_iadd d_RF_comes_158 ?_
      refine xG_icmp_ne (tgt := 166) d_RF_comes_159 (by decide) (fun c => ?_) (fun c => ?_)
      · have h := h.1 c
        refine xG_iconst (v := 0) d_RF_comes_166 rfl ?_
        refine xG_istore (lv' := [(5, xi 0), (4, xi u0), (0, xq (some 250)), (1, xi v1), (2, xi v2), (3, xi v3)]) d_RF_comes_167 (Nat.le_of_ble_eq_true rfl) rfl ?_
        refine xG_iload_n d_RF_comes_169 rfl rfl ?_
        refine xG_if_ne (tgt := 180) d_RF_comes_170 (by decide) (fun c => ?_) (fun c => ?_)
        · have h := h.1 c
          refine xG_pick [2, 3, 4, 5, 1, 0] rfl ?_
          exact h
        · have h := h.2 c
          refine xG_iload d_RF_comes_173 rfl ?_
          refine xG_if_ne (tgt := 180) d_RF_comes_175 (by decide) (fun c => absurd c (by decide)) (fun c => ?_)
          refine xG_iconst (v := 0) d_RF_comes_178 rfl ?_
          exact xG_ireturn d_RF_comes_179 rfl rfl ⟨rfl, hL, _, rfl, h⟩
      · have h := h.2 c
        refine xG_iconst (v := 1) d_RF_comes_162 rfl ?_
        refine xG_goto (tgt := 167) d_RF_comes_163 (by decide) ?_
        refine xG_istore (lv' := [(5, xi 1), (4, xi u0), (0, xq (some 250)), (1, xi v1), (2, xi v2), (3, xi v3)]) d_RF_comes_167 (Nat.le_of_ble_eq_true rfl) rfl ?_
        refine xG_iload_n d_RF_comes_169 rfl rfl ?_
        refine xG_if_ne (tgt := 180) d_RF_comes_170 (by decide) (fun c => ?_) (fun c => ?_)
        · have h := h.1 c
          refine xG_pick [2, 3, 4, 5, 1, 0] rfl ?_
          exact h
        · have h := h.2 c
          refine xG_iload d_RF_comes_173 rfl ?_
          refine xG_if_ne (tgt := 180) d_RF_comes_175 (by decide) (fun c => ?_) (fun c => absurd c (by decide))
          refine xG_pick [2, 3, 4, 5, 1, 0] rfl ?_
          exact h
set_option maxRecDepth 20000 in
theorem b_RF_comes_180 {l : Launch} {V : xV} {Q : Int32 → xIt → xJt → xPt → Prop} {I : xIt} {J : xJt} {P : xPt} (hL : xL P) {v1 : Int32} {v2 : Int32} {v3 : Int32} {v4 : Int32} {v5 : Int32} (h : ((v5 = 0 → (∃ Q1 : xIt → xJt → xPt → Prop, xMet l V y_RF_malformed 2 0 0 [xq (some 250)] xS0 (xu I 250 1 0) J P (xPv Q1) ∧ ∀ (I1 : xIt) (J1 : xJt) (P1 : xPt), Q1 I1 J1 P1 → Q 1 I1 J1 P1)) ∧ (¬ v5 = 0 → (∃ Q2 : Int32 → xIt → xJt → xPt → Prop, xMet l V y_RF_formed 5 0 0 [xq (some 250), xi v4, xi (I 250 1)] xS0 (xu I 250 1 0) J P (xPi Q2) ∧ ∀ (z2 : Int32) (I2 : xIt) (J2 : xJt) (P2 : xPt), Q2 z2 I2 J2 P2 → ((z2 = 0 → (∃ Q3 : xIt → xJt → xPt → Prop, xMet l V y_RF_malformed 2 0 0 [xq (some 250)] xS0 I2 J2 P2 (xPv Q3) ∧ ∀ (I3 : xIt) (J3 : xJt) (P3 : xPt), Q3 I3 J3 P3 → Q 1 I3 J3 P3)) ∧ (¬ z2 = 0 → (∃ Q4 : xIt → xJt → xPt → Prop, xMet l V y_RF_perform 7 0 0 [xq (some 250)] xS0 I2 J2 P2 (xPv Q4) ∧ ∀ (I4 : xIt) (J4 : xJt) (P4 : xPt), Q4 I4 J4 P4 → Q 1 I4 J4 P4))))))) : G_RF_comes l V Q 180 [(0, xq (some 250)), (1, xi v1), (2, xi v2), (3, xi v3), (4, xi v4), (5, xi v5)] [] I J P := by
  refine xG_aload_n d_RF_comes_180 rfl rfl rfl ?_
  refine xG_geti d_RF_comes_181 xf_RF_354 rfl s0_250 ?_
  refine xG_istore (lv' := [(6, xi (I 250 1)), (0, xq (some 250)), (1, xi v1), (2, xi v2), (3, xi v3), (4, xi v4), (5, xi v5)]) d_RF_comes_184 (Nat.le_of_ble_eq_true rfl) rfl ?_
  refine xG_aload_n d_RF_comes_186 rfl rfl rfl ?_
  refine xG_iconst (v := 0) d_RF_comes_187 rfl ?_
  refine xG_puti d_RF_comes_188 xf_RF_354 (Or.inl rfl) rfl s0_250 rfl rfl ?_
  refine xG_iload d_RF_comes_191 rfl ?_
  refine xG_if_eq (tgt := 214) d_RF_comes_193 (by decide) (fun c => ?_) (fun c => ?_)
  · have h := h.1 c
    refine xG_aload_n d_RF_comes_214 rfl rfl rfl ?_
    obtain ⟨Q1, hM, h⟩ := h
    refine xG_callv (as := []) (rest := []) d_RF_comes_215 yv_RF_malformed w5_192 rfl rfl rfl s0_250 (by decide) rfl hM ⟨by decide, by decide⟩ (Nat.le_of_ble_eq_true rfl) ⟨Nat.zero_le _, Nat.zero_le _⟩ (fun r S1 I1 J1 P1 hp => ?_)
    obtain ⟨rfl, hL1, rfl, hq⟩ := hp
    have h := h I1 J1 P1 hq
    refine xG_iconst (v := 1) d_RF_comes_218 rfl ?_
    exact xG_ireturn d_RF_comes_219 rfl rfl ⟨rfl, hL1, _, rfl, h⟩
  · have h := h.2 c
    refine xG_aload_n d_RF_comes_196 rfl rfl rfl ?_
    refine xG_iload d_RF_comes_197 rfl ?_
    refine xG_iload d_RF_comes_199 rfl ?_
    obtain ⟨Q2, hM, h⟩ := h
    refine xG_callv (as := [xi v4, xi (I 250 1)]) (rest := []) d_RF_comes_201 yv_RF_formed w4_183 rfl rfl rfl s0_250 (by decide) rfl hM ⟨by decide, by decide⟩ (Nat.le_of_ble_eq_true rfl) ⟨Nat.zero_le _, Nat.zero_le _⟩ (fun r S2 I2 J2 P2 hp => ?_)
    obtain ⟨rfl, hL2, z2, rfl, hq⟩ := hp
    have h := h z2 I2 J2 P2 hq
    refine xG_if_eq (tgt := 214) d_RF_comes_204 (by decide) (fun c => ?_) (fun c => ?_)
    · have h := h.1 c
      refine xG_aload_n d_RF_comes_214 rfl rfl rfl ?_
      obtain ⟨Q3, hM, h⟩ := h
      refine xG_callv (as := []) (rest := []) d_RF_comes_215 yv_RF_malformed w5_192 rfl rfl rfl s0_250 (by decide) rfl hM ⟨by decide, by decide⟩ (Nat.le_of_ble_eq_true rfl) ⟨Nat.zero_le _, Nat.zero_le _⟩ (fun r S3 I3 J3 P3 hp => ?_)
      obtain ⟨rfl, hL3, rfl, hq⟩ := hp
      have h := h I3 J3 P3 hq
      refine xG_iconst (v := 1) d_RF_comes_218 rfl ?_
      exact xG_ireturn d_RF_comes_219 rfl rfl ⟨rfl, hL3, _, rfl, h⟩
    · have h := h.2 c
      refine xG_aload_n d_RF_comes_207 rfl rfl rfl ?_
      obtain ⟨Q4, hM, h⟩ := h
      refine xG_callv (as := []) (rest := []) d_RF_comes_208 yv_RF_perform w5_7 rfl rfl rfl s0_250 (by decide) rfl hM ⟨by decide, by decide⟩ (Nat.le_of_ble_eq_true rfl) ⟨Nat.zero_le _, Nat.zero_le _⟩ (fun r S4 I4 J4 P4 hp => ?_)
      obtain ⟨rfl, hL4, rfl, hq⟩ := hp
      have h := h I4 J4 P4 hq
      refine xG_goto (tgt := 218) d_RF_comes_211 (by decide) ?_
      refine xG_iconst (v := 1) d_RF_comes_218 rfl ?_
      exact xG_ireturn d_RF_comes_219 rfl rfl ⟨rfl, hL4, _, rfl, h⟩
theorem e_RF_comes {l : Launch} {V : xV} {Q : Int32 → xIt → xJt → xPt → Prop} {I : xIt} {J : xJt} {P : xPt} {v1 : Int32} (h : G_RF_comes l V Q 0 [(0, xq (some 250)), (1, xi v1)] [] I J P) : xMet l V y_RF_comes 8 0 0 [xq (some 250), xi v1] xS0 I J P (xPi Q) := xMet_of (by decide) (Nat.le_of_ble_eq_true rfl) h

abbrev G_RF_feed (l : Launch) (V : xV) (Q : Int32 → xIt → xJt → xPt → Prop) (pc : Nat) (lv : List (Nat × xX)) (st : List xX) (I : xIt) (J : xJt) (P : xPt) : Prop := xG l V y_RF_feed (xR 9 0 0) (xFn V y_RF_feed (xR 9 0 0) (xPi Q)) pc lv st xS0 I J P (0, 0)
set_option maxRecDepth 20000 in
theorem b_RF_feed_0 {l : Launch} {V : xV} {Q : Int32 → xIt → xJt → xPt → Prop} {I : xIt} {J : xJt} {P : xPt} (hL : xL P) {v1 : Int64} {v3 : Int32} (h : ((v3 < 1 → Q (-1) I J P) ∧ (¬ v3 < 1 → ((v3 ≤ 8 → G_RF_feed l V Q 21 [(0, xq (some 250)), (1, xj v1), (3, xi v3), (4, xi 0), (5, xi (v3 - 1))] [] I J P) ∧ (¬ v3 ≤ 8 → Q (-1) I J P))))) : G_RF_feed l V Q 0 [(0, xq (some 250)), (1, xj v1), (3, xi v3)] [] I J P := by
  refine xG_iload_n d_RF_feed_0 rfl rfl ?_
  refine xG_iconst (v := 1) d_RF_feed_1 rfl ?_
  refine xG_icmp_lt (tgt := 11) d_RF_feed_2 (by decide) (fun c => ?_) (fun c => ?_)
  · have h := h.1 c
    refine xG_iconst (v := (-1)) d_RF_feed_11 rfl ?_
    exact xG_ireturn d_RF_feed_12 rfl rfl ⟨rfl, hL, _, rfl, h⟩
  · have h := h.2 c
    refine xG_iload_n d_RF_feed_5 rfl rfl ?_
    refine xG_bipush (v := 8) d_RF_feed_6 rfl ?_
    refine xG_icmp_le (tgt := 13) d_RF_feed_8 (by decide) (fun c => ?_) (fun c => ?_)
    · have h := h.1 c
      refine xG_iconst (v := 0) d_RF_feed_13 rfl ?_
      refine xG_istore (lv' := [(4, xi 0), (0, xq (some 250)), (1, xj v1), (3, xi v3)]) d_RF_feed_14 (Nat.le_of_ble_eq_true rfl) rfl ?_
      refine xG_iload_n d_RF_feed_16 rfl rfl ?_
      refine xG_iconst (v := 1) d_RF_feed_17 rfl ?_
      refine xG_isub d_RF_feed_18 ?_
      refine xG_istore (lv' := [(5, xi (v3 - 1)), (4, xi 0), (0, xq (some 250)), (1, xj v1), (3, xi v3)]) d_RF_feed_19 (Nat.le_of_ble_eq_true rfl) rfl ?_
      refine xG_pick [2, 3, 4, 1, 0] rfl ?_
      exact h
    · have h := h.2 c
      refine xG_iconst (v := (-1)) d_RF_feed_11 rfl ?_
      exact xG_ireturn d_RF_feed_12 rfl rfl ⟨rfl, hL, _, rfl, h⟩
set_option maxRecDepth 20000 in
theorem b_RF_feed_21 {l : Launch} {V : xV} {Q : Int32 → xIt → xJt → xPt → Prop} {I : xIt} {J : xJt} {P : xPt} (hL : xL P) {v1 : Int64} {v3 : Int32} {v4 : Int32} {v5 : Int32} (h : ((v5 < 0 → Q v4 I J P) ∧ (¬ v5 < 0 → (∃ Q1 : Int32 → xIt → xJt → xPt → Prop, xMet l V y_RF_comes 8 0 0 [xq (some 250), xi (((v1 >>> ((8 * v5).toInt64 &&& 63)) &&& 255).toInt32)] xS0 I J P (xPi Q1) ∧ ∀ (z1 : Int32) (I1 : xIt) (J1 : xJt) (P1 : xPt), Q1 z1 I1 J1 P1 → ((z1 = 0 → G_RF_feed l V Q 21 [(0, xq (some 250)), (1, xj v1), (3, xi v3), (4, xi v4), (5, xi (v5 + (-1)))] [] I1 J1 P1) ∧ (¬ z1 = 0 → G_RF_feed l V Q 21 [(0, xq (some 250)), (1, xj v1), (3, xi v3), (4, xi (v4 + 1)), (5, xi (v5 + (-1)))] [] I1 J1 P1)))))) : G_RF_feed l V Q 21 [(0, xq (some 250)), (1, xj v1), (3, xi v3), (4, xi v4), (5, xi v5)] [] I J P := by
  refine xG_iload d_RF_feed_21 rfl ?_
  refine xG_if_lt (tgt := 62) d_RF_feed_23 (by decide) (fun c => ?_) (fun c => ?_)
  · have h := h.1 c
    refine xG_iload d_RF_feed_62 rfl ?_
    exact xG_ireturn d_RF_feed_64 rfl rfl ⟨rfl, hL, _, rfl, h⟩
  · have h := h.2 c
    refine xG_aload_n d_RF_feed_26 rfl rfl rfl ?_
    refine xG_lload_n d_RF_feed_27 rfl rfl ?_
    refine xG_bipush (v := 8) d_RF_feed_28 rfl ?_
    refine xG_iload d_RF_feed_30 rfl ?_
    refine xG_imul d_RF_feed_32 ?_
    refine xG_lshr d_RF_feed_33 ?_
    refine xG_ldc2 (v := 255) d_RF_feed_34 w4_178 ?_
    refine xG_land d_RF_feed_37 ?_
    refine xG_l2i d_RF_feed_38 ?_
    obtain ⟨Q1, hM, h⟩ := h
    refine xG_callv (as := [xi (((v1 >>> ((8 * v5).toInt64 &&& 63)) &&& 255).toInt32)]) (rest := []) d_RF_feed_39 yv_RF_comes w4_179 rfl rfl rfl s0_250 (by decide) rfl hM ⟨by decide, by decide⟩ (Nat.le_of_ble_eq_true rfl) ⟨Nat.zero_le _, Nat.zero_le _⟩ (fun r S1 I1 J1 P1 hp => ?_)
    obtain ⟨rfl, hL1, z1, rfl, hq⟩ := hp
    have h := h z1 I1 J1 P1 hq
    refine xG_if_eq (tgt := 52) d_RF_feed_42 (by decide) (fun c => ?_) (fun c => ?_)
    · have h := h.1 c
      refine xG_iload d_RF_feed_52 rfl ?_
      refine xG_istore (lv' := [(4, xi v4), (0, xq (some 250)), (1, xj v1), (3, xi v3), (5, xi v5)]) d_RF_feed_54 (Nat.le_of_ble_eq_true rfl) rfl ?_
      refine xG_iinc (v := v5 + (-1)) (lv' := [(5, xi (v5 + (-1))), (4, xi v4), (0, xq (some 250)), (1, xj v1), (3, xi v3)]) d_RF_feed_56 rfl rfl (Nat.le_of_ble_eq_true rfl) rfl ?_
      refine xG_goto (tgt := 21) d_RF_feed_59 (by decide) ?_
      refine xG_pick [2, 3, 4, 1, 0] rfl ?_
      exact h
    · have h := h.2 c
      refine xG_iload d_RF_feed_45 rfl ?_
      refine xG_iconst (v := 1) d_RF_feed_47 rfl ?_
      refine xG_iadd d_RF_feed_48 ?_
      refine xG_goto (tgt := 54) d_RF_feed_49 (by decide) ?_
      refine xG_istore (lv' := [(4, xi (v4 + 1)), (0, xq (some 250)), (1, xj v1), (3, xi v3), (5, xi v5)]) d_RF_feed_54 (Nat.le_of_ble_eq_true rfl) rfl ?_
      refine xG_iinc (v := v5 + (-1)) (lv' := [(5, xi (v5 + (-1))), (4, xi (v4 + 1)), (0, xq (some 250)), (1, xj v1), (3, xi v3)]) d_RF_feed_56 rfl rfl (Nat.le_of_ble_eq_true rfl) rfl ?_
      refine xG_goto (tgt := 21) d_RF_feed_59 (by decide) ?_
      refine xG_pick [2, 3, 4, 1, 0] rfl ?_
      exact h
theorem e_RF_feed {l : Launch} {V : xV} {Q : Int32 → xIt → xJt → xPt → Prop} {I : xIt} {J : xJt} {P : xPt} {v1 : Int64} {v3 : Int32} (h : G_RF_feed l V Q 0 [(0, xq (some 250)), (1, xj v1), (3, xi v3)] [] I J P) : xMet l V y_RF_feed 9 0 0 [xq (some 250), xj v1, xi v3] xS0 I J P (xPi Q) := xMet_of (by decide) (Nat.le_of_ble_eq_true rfl) h

abbrev G_RF_connect (l : Launch) (V : xV) (Q : xIt → xJt → xPt → Prop) (pc : Nat) (lv : List (Nat × xX)) (st : List xX) (I : xIt) (J : xJt) (P : xPt) : Prop := xG l V y_RF_connect (xR 1 0 0) (xFn V y_RF_connect (xR 1 0 0) (xPv Q)) pc lv st xS0 I J P (0, 0)
set_option maxRecDepth 20000 in
theorem b_RF_connect_0 {l : Launch} {V : xV} {Q : xIt → xJt → xPt → Prop} {I : xIt} {J : xJt} {P : xPt} (hL : xL P)  (h : Q (xu (xu (xu I 250 0 0) 250 1 0) 250 37 (-1)) J P) : G_RF_connect l V Q 0 [(0, xq (some 250))] [] I J P := by
  refine xG_aload_n d_RF_connect_0 rfl rfl rfl ?_
  refine xG_iconst (v := 0) d_RF_connect_1 rfl ?_
  refine xG_puti d_RF_connect_2 xf_RF_326 (Or.inl rfl) rfl s0_250 rfl rfl ?_
  refine xG_aload_n d_RF_connect_5 rfl rfl rfl ?_
  refine xG_iconst (v := 0) d_RF_connect_6 rfl ?_
  refine xG_puti d_RF_connect_7 xf_RF_354 (Or.inl rfl) rfl s0_250 rfl rfl ?_
  refine xG_aload_n d_RF_connect_10 rfl rfl rfl ?_
  refine xG_iconst (v := (-1)) d_RF_connect_11 rfl ?_
  refine xG_puti d_RF_connect_12 xf_RF_58 (Or.inl rfl) rfl s0_250 rfl rfl ?_
  exact xG_return d_RF_connect_15 rfl ⟨rfl, hL, rfl, h⟩
theorem e_RF_connect {l : Launch} {V : xV} {Q : xIt → xJt → xPt → Prop} {I : xIt} {J : xJt} {P : xPt}  (h : G_RF_connect l V Q 0 [(0, xq (some 250))] [] I J P) : xMet l V y_RF_connect 1 0 0 [xq (some 250)] xS0 I J P (xPv Q) := xMet_of (by decide) (Nat.le_of_ble_eq_true rfl) h

abbrev G_RF_open (l : Launch) (V : xV) (Q : Int32 → xIt → xJt → xPt → Prop) (pc : Nat) (lv : List (Nat × xX)) (st : List xX) (I : xIt) (J : xJt) (P : xPt) : Prop := xG l V y_RF_open (xR 1 0 0) (xFn V y_RF_open (xR 1 0 0) (xPi Q)) pc lv st xS0 I J P (0, 0)
set_option maxRecDepth 20000 in
theorem b_RF_open_0 {l : Launch} {V : xV} {Q : Int32 → xIt → xJt → xPt → Prop} {I : xIt} {J : xJt} {P : xPt} (hL : xL P)  (h : ((¬ (I 250 0) = 0 → Q 0 I J P) ∧ ((I 250 0) = 0 → Q 1 I J P))) : G_RF_open l V Q 0 [(0, xq (some 250))] [] I J P := by
  refine xG_aload_n d_RF_open_0 rfl rfl rfl ?_
  refine xG_geti d_RF_open_1 xf_RF_326 rfl s0_250 ?_
  refine xG_if_ne (tgt := 11) d_RF_open_4 (by decide) (fun c => ?_) (fun c => ?_)
  · have h := h.1 c
    refine xG_iconst (v := 0) d_RF_open_11 rfl ?_
    exact xG_ireturn d_RF_open_12 rfl rfl ⟨rfl, hL, _, rfl, h⟩
  · have h := h.2 c
    refine xG_iconst (v := 1) d_RF_open_7 rfl ?_
    refine xG_goto (tgt := 12) d_RF_open_8 (by decide) ?_
    exact xG_ireturn d_RF_open_12 rfl rfl ⟨rfl, hL, _, rfl, h⟩
theorem e_RF_open {l : Launch} {V : xV} {Q : Int32 → xIt → xJt → xPt → Prop} {I : xIt} {J : xJt} {P : xPt}  (h : G_RF_open l V Q 0 [(0, xq (some 250))] [] I J P) : xMet l V y_RF_open 1 0 0 [xq (some 250)] xS0 I J P (xPi Q) := xMet_of (by decide) (Nat.le_of_ble_eq_true rfl) h

abbrev G_RF_kept (l : Launch) (V : xV) (Q : Int32 → xIt → xJt → xPt → Prop) (pc : Nat) (lv : List (Nat × xX)) (st : List xX) (I : xIt) (J : xJt) (P : xPt) : Prop := xG l V y_RF_kept (xR 1 0 0) (xFn V y_RF_kept (xR 1 0 0) (xPi Q)) pc lv st xS0 I J P (0, 0)
set_option maxRecDepth 20000 in
theorem b_RF_kept_0 {l : Launch} {V : xV} {Q : Int32 → xIt → xJt → xPt → Prop} {I : xIt} {J : xJt} {P : xPt} (hL : xL P)  (h : Q (I 250 1) I J P) : G_RF_kept l V Q 0 [(0, xq (some 250))] [] I J P := by
  refine xG_aload_n d_RF_kept_0 rfl rfl rfl ?_
  refine xG_geti d_RF_kept_1 xf_RF_354 rfl s0_250 ?_
  exact xG_ireturn d_RF_kept_4 rfl rfl ⟨rfl, hL, _, rfl, h⟩
theorem e_RF_kept {l : Launch} {V : xV} {Q : Int32 → xIt → xJt → xPt → Prop} {I : xIt} {J : xJt} {P : xPt}  (h : G_RF_kept l V Q 0 [(0, xq (some 250))] [] I J P) : xMet l V y_RF_kept 1 0 0 [xq (some 250)] xS0 I J P (xPi Q) := xMet_of (by decide) (Nat.le_of_ble_eq_true rfl) h

abbrev G_RF_bound (l : Launch) (V : xV) (Q : Int32 → xIt → xJt → xPt → Prop) (pc : Nat) (lv : List (Nat × xX)) (st : List xX) (I : xIt) (J : xJt) (P : xPt) : Prop := xG l V y_RF_bound (xR 1 0 0) (xFn V y_RF_bound (xR 1 0 0) (xPi Q)) pc lv st xS0 I J P (0, 0)
set_option maxRecDepth 20000 in
theorem b_RF_bound_0 {l : Launch} {V : xV} {Q : Int32 → xIt → xJt → xPt → Prop} {I : xIt} {J : xJt} {P : xPt} (hL : xL P)  (h : Q (I 250 37) I J P) : G_RF_bound l V Q 0 [(0, xq (some 250))] [] I J P := by
  refine xG_aload_n d_RF_bound_0 rfl rfl rfl ?_
  refine xG_geti d_RF_bound_1 xf_RF_58 rfl s0_250 ?_
  exact xG_ireturn d_RF_bound_4 rfl rfl ⟨rfl, hL, _, rfl, h⟩
theorem e_RF_bound {l : Launch} {V : xV} {Q : Int32 → xIt → xJt → xPt → Prop} {I : xIt} {J : xJt} {P : xPt}  (h : G_RF_bound l V Q 0 [(0, xq (some 250))] [] I J P) : xMet l V y_RF_bound 1 0 0 [xq (some 250)] xS0 I J P (xPi Q) := xMet_of (by decide) (Nat.le_of_ble_eq_true rfl) h

abbrev G_RF_code (l : Launch) (V : xV) (Q : Int32 → xIt → xJt → xPt → Prop) (pc : Nat) (lv : List (Nat × xX)) (st : List xX) (I : xIt) (J : xJt) (P : xPt) : Prop := xG l V y_RF_code (xR 1 0 0) (xFn V y_RF_code (xR 1 0 0) (xPi Q)) pc lv st xS0 I J P (0, 0)
set_option maxRecDepth 20000 in
theorem b_RF_code_0 {l : Launch} {V : xV} {Q : Int32 → xIt → xJt → xPt → Prop} {I : xIt} {J : xJt} {P : xPt} (hL : xL P)  (h : Q (I 250 46) I J P) : G_RF_code l V Q 0 [(0, xq (some 250))] [] I J P := by
  refine xG_aload_n d_RF_code_0 rfl rfl rfl ?_
  refine xG_geti d_RF_code_1 xf_RF_80 rfl s0_250 ?_
  exact xG_ireturn d_RF_code_4 rfl rfl ⟨rfl, hL, _, rfl, h⟩
theorem e_RF_code {l : Launch} {V : xV} {Q : Int32 → xIt → xJt → xPt → Prop} {I : xIt} {J : xJt} {P : xPt}  (h : G_RF_code l V Q 0 [(0, xq (some 250))] [] I J P) : xMet l V y_RF_code 1 0 0 [xq (some 250)] xS0 I J P (xPi Q) := xMet_of (by decide) (Nat.le_of_ble_eq_true rfl) h

abbrev G_RF_found (l : Launch) (V : xV) (Q : Int32 → xIt → xJt → xPt → Prop) (pc : Nat) (lv : List (Nat × xX)) (st : List xX) (I : xIt) (J : xJt) (P : xPt) : Prop := xG l V y_RF_found (xR 1 0 0) (xFn V y_RF_found (xR 1 0 0) (xPi Q)) pc lv st xS0 I J P (0, 0)
set_option maxRecDepth 20000 in
theorem b_RF_found_0 {l : Launch} {V : xV} {Q : Int32 → xIt → xJt → xPt → Prop} {I : xIt} {J : xJt} {P : xPt} (hL : xL P)  (h : Q (I 250 47) I J P) : G_RF_found l V Q 0 [(0, xq (some 250))] [] I J P := by
  refine xG_aload_n d_RF_found_0 rfl rfl rfl ?_
  refine xG_geti d_RF_found_1 xf_RF_277 rfl s0_250 ?_
  exact xG_ireturn d_RF_found_4 rfl rfl ⟨rfl, hL, _, rfl, h⟩
theorem e_RF_found {l : Launch} {V : xV} {Q : Int32 → xIt → xJt → xPt → Prop} {I : xIt} {J : xJt} {P : xPt}  (h : G_RF_found l V Q 0 [(0, xq (some 250))] [] I J P) : xMet l V y_RF_found 1 0 0 [xq (some 250)] xS0 I J P (xPi Q) := xMet_of (by decide) (Nat.le_of_ble_eq_true rfl) h

abbrev G_RF_length (l : Launch) (V : xV) (Q : Int32 → xIt → xJt → xPt → Prop) (pc : Nat) (lv : List (Nat × xX)) (st : List xX) (I : xIt) (J : xJt) (P : xPt) : Prop := xG l V y_RF_length (xR 1 0 0) (xFn V y_RF_length (xR 1 0 0) (xPi Q)) pc lv st xS0 I J P (0, 0)
set_option maxRecDepth 20000 in
theorem b_RF_length_0 {l : Launch} {V : xV} {Q : Int32 → xIt → xJt → xPt → Prop} {I : xIt} {J : xJt} {P : xPt} (hL : xL P)  (h : Q (I 250 42) I J P) : G_RF_length l V Q 0 [(0, xq (some 250))] [] I J P := by
  refine xG_aload_n d_RF_length_0 rfl rfl rfl ?_
  refine xG_geti d_RF_length_1 xf_RF_308 rfl s0_250 ?_
  exact xG_ireturn d_RF_length_4 rfl rfl ⟨rfl, hL, _, rfl, h⟩
theorem e_RF_length {l : Launch} {V : xV} {Q : Int32 → xIt → xJt → xPt → Prop} {I : xIt} {J : xJt} {P : xPt}  (h : G_RF_length l V Q 0 [(0, xq (some 250))] [] I J P) : xMet l V y_RF_length 1 0 0 [xq (some 250)] xS0 I J P (xPi Q) := xMet_of (by decide) (Nat.le_of_ble_eq_true rfl) h

abbrev G_RF_output (l : Launch) (V : xV) (Q : Int64 → xIt → xJt → xPt → Prop) (pc : Nat) (lv : List (Nat × xX)) (st : List xX) (I : xIt) (J : xJt) (P : xPt) : Prop := xG l V y_RF_output (xR 1 0 0) (xFn V y_RF_output (xR 1 0 0) (xPl Q)) pc lv st xS0 I J P (0, 0)
set_option maxRecDepth 20000 in
theorem b_RF_output_0 {l : Launch} {V : xV} {Q : Int64 → xIt → xJt → xPt → Prop} {I : xIt} {J : xJt} {P : xPt} (hL : xL P) {v1 : Int32} (h : ((v1 < 0 → Q 0 I J P) ∧ (¬ v1 < 0 → ((v1 < 256 → G_RF_output l V Q 21 [(0, xq (some 250)), (1, xi v1), (2, xj 0), (4, xi (8 * v1))] [] I J P) ∧ (¬ v1 < 256 → Q 0 I J P))))) : G_RF_output l V Q 0 [(0, xq (some 250)), (1, xi v1)] [] I J P := by
  refine xG_lconst (v := 0) d_RF_output_0 rfl ?_
  refine xG_lstore_n (lv' := [(2, xj 0), (0, xq (some 250)), (1, xi v1)]) d_RF_output_1 rfl (Nat.le_of_ble_eq_true rfl) rfl ?_
  refine xG_iload_n d_RF_output_2 rfl rfl ?_
  refine xG_if_lt (tgt := 13) d_RF_output_3 (by decide) (fun c => ?_) (fun c => ?_)
  · have h := h.1 c
    refine xG_lconst (v := 0) d_RF_output_13 rfl ?_
    exact xG_lreturn d_RF_output_14 rfl ⟨rfl, hL, _, rfl, h⟩
  · have h := h.2 c
    refine xG_iload_n d_RF_output_6 rfl rfl ?_
    refine xG_sipush (v := 256) d_RF_output_7 rfl ?_
    refine xG_icmp_lt (tgt := 15) d_RF_output_10 (by decide) (fun c => ?_) (fun c => ?_)
    · have h := h.1 c
      refine xG_bipush (v := 8) d_RF_output_15 rfl ?_
      refine xG_iload_n d_RF_output_17 rfl rfl ?_
      refine xG_imul d_RF_output_18 ?_
      refine xG_istore (lv' := [(4, xi (8 * v1)), (2, xj 0), (0, xq (some 250)), (1, xi v1)]) d_RF_output_19 (Nat.le_of_ble_eq_true rfl) rfl ?_
      refine xG_pick [2, 3, 1, 0] rfl ?_
      exact h
    · have h := h.2 c
      refine xG_lconst (v := 0) d_RF_output_13 rfl ?_
      exact xG_lreturn d_RF_output_14 rfl ⟨rfl, hL, _, rfl, h⟩
set_option maxRecDepth 20000 in
theorem b_RF_output_21 {l : Launch} {V : xV} {Q : Int64 → xIt → xJt → xPt → Prop} {I : xIt} {J : xJt} {P : xPt} (hL : xL P) {v1 : Int32} {v2 : Int64} {v4 : Int32} (h : ((((8 * v1) + 8) ≤ v4 → Q v2 I J P) ∧ (¬ ((8 * v1) + 8) ≤ v4 → (((I 250 42) ≤ v4 → G_RF_output l V Q 21 [(0, xq (some 250)), (1, xi v1), (2, xj ((v2 <<< ((8 : Int32).toInt64 &&& 63)) ||| ((0 : Int32).toInt64))), (4, xi (v4 + 1))] [] I J P) ∧ (¬ (I 250 42) ≤ v4 → (vp_in v4 2048 ∧ G_RF_output l V Q 21 [(0, xq (some 250)), (1, xi v1), (2, xj ((v2 <<< ((8 : Int32).toInt64 &&& 63)) ||| ((I 271 v4.toNatClampNeg).toInt64))), (4, xi (v4 + 1))] [] I J P)))))) : G_RF_output l V Q 21 [(0, xq (some 250)), (1, xi v1), (2, xj v2), (4, xi v4)] [] I J P := by
  refine xG_iload d_RF_output_21 rfl ?_
  refine xG_bipush (v := 8) d_RF_output_23 rfl ?_
  refine xG_iload_n d_RF_output_25 rfl rfl ?_
  refine xG_imul d_RF_output_26 ?_
  refine xG_bipush (v := 8) d_RF_output_27 rfl ?_
  refine xG_iadd d_RF_output_29 ?_
  refine xG_icmp_ge (tgt := 66) d_RF_output_30 (by decide) (fun c => ?_) (fun c => ?_)
  · have h := h.1 c
    refine xG_lload_n d_RF_output_66 rfl rfl ?_
    exact xG_lreturn d_RF_output_67 rfl ⟨rfl, hL, _, rfl, h⟩
  · have h := h.2 c
    refine xG_lload_n d_RF_output_33 rfl rfl ?_
    refine xG_bipush (v := 8) d_RF_output_34 rfl ?_
    refine xG_lshl d_RF_output_36 ?_
    refine xG_iload d_RF_output_37 rfl ?_
    refine xG_aload_n d_RF_output_39 rfl rfl rfl ?_
    refine xG_geti d_RF_output_40 xf_RF_308 rfl s0_250 ?_
    refine xG_icmp_ge (tgt := 56) d_RF_output_43 (by decide) (fun c => ?_) (fun c => ?_)
    · have h := h.1 c
      refine xG_iconst (v := 0) d_RF_output_56 rfl ?_
      refine xG_i2l d_RF_output_57 ?_
      refine xG_lor d_RF_output_58 ?_
      refine xG_lstore_n (lv' := [(2, xj ((v2 <<< ((8 : Int32).toInt64 &&& 63)) ||| ((0 : Int32).toInt64))), (0, xq (some 250)), (1, xi v1), (4, xi v4)]) d_RF_output_59 rfl (Nat.le_of_ble_eq_true rfl) rfl ?_
      refine xG_iinc (v := v4 + 1) (lv' := [(4, xi (v4 + 1)), (2, xj ((v2 <<< ((8 : Int32).toInt64 &&& 63)) ||| ((0 : Int32).toInt64))), (0, xq (some 250)), (1, xi v1)]) d_RF_output_60 rfl rfl (Nat.le_of_ble_eq_true rfl) rfl ?_
      refine xG_goto (tgt := 21) d_RF_output_63 (by decide) ?_
      refine xG_pick [2, 3, 1, 0] rfl ?_
      exact h
    · have h := h.2 c
      refine xG_aload_n d_RF_output_46 rfl rfl rfl ?_
      refine xG_getq d_RF_output_47 xf_RF_74 rfl s0_250 ?_
      refine xG_iload d_RF_output_50 rfl ?_
      refine xG_iald d_RF_output_52 (lp_250_43 hL) s0_271 h.1 ?_
      have h := h.2
      refine xG_goto (tgt := 57) d_RF_output_53 (by decide) ?_
      refine xG_i2l d_RF_output_57 ?_
      refine xG_lor d_RF_output_58 ?_
      refine xG_lstore_n (lv' := [(2, xj ((v2 <<< ((8 : Int32).toInt64 &&& 63)) ||| ((I 271 v4.toNatClampNeg).toInt64))), (0, xq (some 250)), (1, xi v1), (4, xi v4)]) d_RF_output_59 rfl (Nat.le_of_ble_eq_true rfl) rfl ?_
      refine xG_iinc (v := v4 + 1) (lv' := [(4, xi (v4 + 1)), (2, xj ((v2 <<< ((8 : Int32).toInt64 &&& 63)) ||| ((I 271 v4.toNatClampNeg).toInt64))), (0, xq (some 250)), (1, xi v1)]) d_RF_output_60 rfl rfl (Nat.le_of_ble_eq_true rfl) rfl ?_
      refine xG_goto (tgt := 21) d_RF_output_63 (by decide) ?_
      refine xG_pick [2, 3, 1, 0] rfl ?_
      exact h
theorem e_RF_output {l : Launch} {V : xV} {Q : Int64 → xIt → xJt → xPt → Prop} {I : xIt} {J : xJt} {P : xPt} {v1 : Int32} (h : G_RF_output l V Q 0 [(0, xq (some 250)), (1, xi v1)] [] I J P) : xMet l V y_RF_output 1 0 0 [xq (some 250), xi v1] xS0 I J P (xPl Q) := xMet_of (by decide) (Nat.le_of_ble_eq_true rfl) h

abbrev G_RF_entries (l : Launch) (V : xV) (Q : Int32 → xIt → xJt → xPt → Prop) (pc : Nat) (lv : List (Nat × xX)) (st : List xX) (I : xIt) (J : xJt) (P : xPt) : Prop := xG l V y_RF_entries (xR 1 0 0) (xFn V y_RF_entries (xR 1 0 0) (xPi Q)) pc lv st xS0 I J P (0, 0)
set_option maxRecDepth 20000 in
theorem b_RF_entries_0 {l : Launch} {V : xV} {Q : Int32 → xIt → xJt → xPt → Prop} {I : xIt} {J : xJt} {P : xPt} (hL : xL P)  (h : Q (I 250 27) I J P) : G_RF_entries l V Q 0 [(0, xq (some 250))] [] I J P := by
  refine xG_aload_n d_RF_entries_0 rfl rfl rfl ?_
  refine xG_geti d_RF_entries_1 xf_RF_211 rfl s0_250 ?_
  exact xG_ireturn d_RF_entries_4 rfl rfl ⟨rfl, hL, _, rfl, h⟩
theorem e_RF_entries {l : Launch} {V : xV} {Q : Int32 → xIt → xJt → xPt → Prop} {I : xIt} {J : xJt} {P : xPt}  (h : G_RF_entries l V Q 0 [(0, xq (some 250))] [] I J P) : xMet l V y_RF_entries 1 0 0 [xq (some 250)] xS0 I J P (xPi Q) := xMet_of (by decide) (Nat.le_of_ble_eq_true rfl) h

abbrev G_RF_parent (l : Launch) (V : xV) (Q : Int32 → xIt → xJt → xPt → Prop) (pc : Nat) (lv : List (Nat × xX)) (st : List xX) (I : xIt) (J : xJt) (P : xPt) : Prop := xG l V y_RF_parent (xR 1 0 0) (xFn V y_RF_parent (xR 1 0 0) (xPi Q)) pc lv st xS0 I J P (0, 0)
set_option maxRecDepth 20000 in
theorem b_RF_parent_0 {l : Launch} {V : xV} {Q : Int32 → xIt → xJt → xPt → Prop} {I : xIt} {J : xJt} {P : xPt} (hL : xL P) {v1 : Int32} (h : ((v1 < 0 → Q (-2) I J P) ∧ (¬ v1 < 0 → ((v1 < (I 250 27) → (vp_in v1 13 ∧ Q (I 263 v1.toNatClampNeg) I J P)) ∧ (¬ v1 < (I 250 27) → Q (-2) I J P))))) : G_RF_parent l V Q 0 [(0, xq (some 250)), (1, xi v1)] [] I J P := by
  refine xG_iload_n d_RF_parent_0 rfl rfl ?_
  refine xG_if_lt (tgt := 12) d_RF_parent_1 (by decide) (fun c => ?_) (fun c => ?_)
  · have h := h.1 c
    refine xG_bipush (v := (-2)) d_RF_parent_12 rfl ?_
    refine xG_goto (tgt := 23) d_RF_parent_14 (by decide) ?_
    exact xG_ireturn d_RF_parent_23 rfl rfl ⟨rfl, hL, _, rfl, h⟩
  · have h := h.2 c
    refine xG_iload_n d_RF_parent_4 rfl rfl ?_
    refine xG_aload_n d_RF_parent_5 rfl rfl rfl ?_
    refine xG_geti d_RF_parent_6 xf_RF_211 rfl s0_250 ?_
    refine xG_icmp_lt (tgt := 17) d_RF_parent_9 (by decide) (fun c => ?_) (fun c => ?_)
    · have h := h.1 c
      refine xG_aload_n d_RF_parent_17 rfl rfl rfl ?_
      refine xG_getq d_RF_parent_18 xf_RF_46 rfl s0_250 ?_
      refine xG_iload_n d_RF_parent_21 rfl rfl ?_
      refine xG_iald d_RF_parent_22 (lp_250_33 hL) s0_263 h.1 ?_
      have h := h.2
      exact xG_ireturn d_RF_parent_23 rfl rfl ⟨rfl, hL, _, rfl, h⟩
    · have h := h.2 c
      refine xG_bipush (v := (-2)) d_RF_parent_12 rfl ?_
      refine xG_goto (tgt := 23) d_RF_parent_14 (by decide) ?_
      exact xG_ireturn d_RF_parent_23 rfl rfl ⟨rfl, hL, _, rfl, h⟩
theorem e_RF_parent {l : Launch} {V : xV} {Q : Int32 → xIt → xJt → xPt → Prop} {I : xIt} {J : xJt} {P : xPt} {v1 : Int32} (h : G_RF_parent l V Q 0 [(0, xq (some 250)), (1, xi v1)] [] I J P) : xMet l V y_RF_parent 1 0 0 [xq (some 250), xi v1] xS0 I J P (xPi Q) := xMet_of (by decide) (Nat.le_of_ble_eq_true rfl) h

abbrev G_RF_values (l : Launch) (V : xV) (Q : Int32 → xIt → xJt → xPt → Prop) (pc : Nat) (lv : List (Nat × xX)) (st : List xX) (I : xIt) (J : xJt) (P : xPt) : Prop := xG l V y_RF_values (xR 1 0 0) (xFn V y_RF_values (xR 1 0 0) (xPi Q)) pc lv st xS0 I J P (0, 0)
set_option maxRecDepth 20000 in
theorem b_RF_values_0 {l : Launch} {V : xV} {Q : Int32 → xIt → xJt → xPt → Prop} {I : xIt} {J : xJt} {P : xPt} (hL : xL P) {v1 : Int32} {v2 : Int32} (h : ((v1 < 0 → Q (-1) I J P) ∧ (¬ v1 < 0 → (((I 250 27) ≤ v1 → Q (-1) I J P) ∧ (¬ (I 250 27) ≤ v1 → ((v2 < 0 → Q (-1) I J P) ∧ (¬ v2 < 0 → ((v2 ≤ 4 → (vp_in ((5 * v1) + v2) 65 ∧ Q (I 258 (((5 * v1) + v2).toNatClampNeg)) I J P)) ∧ (¬ v2 ≤ 4 → Q (-1) I J P))))))))) : G_RF_values l V Q 0 [(0, xq (some 250)), (1, xi v1), (2, xi v2)] [] I J P := by
  refine xG_iload_n d_RF_values_0 rfl rfl ?_
  refine xG_if_lt (tgt := 21) d_RF_values_1 (by decide) (fun c => ?_) (fun c => ?_)
  · have h := h.1 c
    refine xG_iconst (v := (-1)) d_RF_values_21 rfl ?_
    refine xG_goto (tgt := 35) d_RF_values_22 (by decide) ?_
    exact xG_ireturn d_RF_values_35 rfl rfl ⟨rfl, hL, _, rfl, h⟩
  · have h := h.2 c
    refine xG_iload_n d_RF_values_4 rfl rfl ?_
    refine xG_aload_n d_RF_values_5 rfl rfl rfl ?_
    refine xG_geti d_RF_values_6 xf_RF_211 rfl s0_250 ?_
    refine xG_icmp_ge (tgt := 21) d_RF_values_9 (by decide) (fun c => ?_) (fun c => ?_)
    · have h := h.1 c
      refine xG_iconst (v := (-1)) d_RF_values_21 rfl ?_
      refine xG_goto (tgt := 35) d_RF_values_22 (by decide) ?_
      exact xG_ireturn d_RF_values_35 rfl rfl ⟨rfl, hL, _, rfl, h⟩
    · have h := h.2 c
      refine xG_iload_n d_RF_values_12 rfl rfl ?_
      refine xG_if_lt (tgt := 21) d_RF_values_13 (by decide) (fun c => ?_) (fun c => ?_)
      · have h := h.1 c
        refine xG_iconst (v := (-1)) d_RF_values_21 rfl ?_
        refine xG_goto (tgt := 35) d_RF_values_22 (by decide) ?_
        exact xG_ireturn d_RF_values_35 rfl rfl ⟨rfl, hL, _, rfl, h⟩
      · have h := h.2 c
        refine xG_iload_n d_RF_values_16 rfl rfl ?_
        refine xG_iconst (v := 4) d_RF_values_17 rfl ?_
        refine xG_icmp_le (tgt := 25) d_RF_values_18 (by decide) (fun c => ?_) (fun c => ?_)
        · have h := h.1 c
          refine xG_aload_n d_RF_values_25 rfl rfl rfl ?_
          refine xG_getq d_RF_values_26 xf_RF_31 rfl s0_250 ?_
          refine xG_iconst (v := 5) d_RF_values_29 rfl ?_
          refine xG_iload_n d_RF_values_30 rfl rfl ?_
          refine xG_imul d_RF_values_31 ?_
          refine xG_iload_n d_RF_values_32 rfl rfl ?_
          refine xG_iadd d_RF_values_33 ?_
          refine xG_iald d_RF_values_34 (lp_250_28 hL) s0_258 h.1 ?_
          have h := h.2
          refine xG_topi (x' := I 258 (((5 * v1) + v2).toNatClampNeg)) (by first | rfl | exact xu_at | simp [xu]) ?_
          exact xG_ireturn d_RF_values_35 rfl rfl ⟨rfl, hL, _, rfl, h⟩
        · have h := h.2 c
          refine xG_iconst (v := (-1)) d_RF_values_21 rfl ?_
          refine xG_goto (tgt := 35) d_RF_values_22 (by decide) ?_
          exact xG_ireturn d_RF_values_35 rfl rfl ⟨rfl, hL, _, rfl, h⟩
theorem e_RF_values {l : Launch} {V : xV} {Q : Int32 → xIt → xJt → xPt → Prop} {I : xIt} {J : xJt} {P : xPt} {v1 : Int32} {v2 : Int32} (h : G_RF_values l V Q 0 [(0, xq (some 250)), (1, xi v1), (2, xi v2)] [] I J P) : xMet l V y_RF_values 1 0 0 [xq (some 250), xi v1, xi v2] xS0 I J P (xPi Q) := xMet_of (by decide) (Nat.le_of_ble_eq_true rfl) h

abbrev G_RF_value (l : Launch) (V : xV) (Q : Int32 → xIt → xJt → xPt → Prop) (pc : Nat) (lv : List (Nat × xX)) (st : List xX) (I : xIt) (J : xJt) (P : xPt) : Prop := xG l V y_RF_value (xR 1 0 0) (xFn V y_RF_value (xR 1 0 0) (xPi Q)) pc lv st xS0 I J P (0, 0)
set_option maxRecDepth 20000 in
theorem b_RF_value_0 {l : Launch} {V : xV} {Q : Int32 → xIt → xJt → xPt → Prop} {I : xIt} {J : xJt} {P : xPt} (hL : xL P) {v1 : Int32} {v2 : Int32} {v3 : Int32} {v4 : Int32} (h : ((v1 < 0 → Q (-1) I J P) ∧ (¬ v1 < 0 → (((I 250 27) ≤ v1 → Q (-1) I J P) ∧ (¬ (I 250 27) ≤ v1 → ((v2 < 0 → Q (-1) I J P) ∧ (¬ v2 < 0 → ((4 < v2 → Q (-1) I J P) ∧ (¬ 4 < v2 → ((v3 < 0 → Q (-1) I J P) ∧ (¬ v3 < 0 → (vp_in ((5 * v1) + v2) 65 ∧ ((v3 < (I 258 (((5 * v1) + v2).toNatClampNeg)) → ((v4 < 0 → Q (-1) I J P) ∧ (¬ v4 < 0 → (vp_in (((15 * v1) + (3 * v2)) + v3) 195 ∧ ((v4 < (I 259 ((((15 * v1) + (3 * v2)) + v3).toNatClampNeg)) → (vp_in ((6 * (((15 * v1) + (3 * v2)) + v3)) + v4) 1170 ∧ Q (I 260 (((6 * (((15 * v1) + (3 * v2)) + v3)) + v4).toNatClampNeg)) I J P)) ∧ (¬ v4 < (I 259 ((((15 * v1) + (3 * v2)) + v3).toNatClampNeg)) → Q (-1) I J P)))))) ∧ (¬ v3 < (I 258 (((5 * v1) + v2).toNatClampNeg)) → Q (-1) I J P)))))))))))))) : G_RF_value l V Q 0 [(0, xq (some 250)), (1, xi v1), (2, xi v2), (3, xi v3), (4, xi v4)] [] I J P := by
  refine xG_iload_n d_RF_value_0 rfl rfl ?_
  refine xG_if_lt (tgt := 39) d_RF_value_1 (by decide) (fun c => ?_) (fun c => ?_)
  · have h := h.1 c
    refine xG_iconst (v := (-1)) d_RF_value_39 rfl ?_
    exact xG_ireturn d_RF_value_40 rfl rfl ⟨rfl, hL, _, rfl, h⟩
  · have h := h.2 c
    refine xG_iload_n d_RF_value_4 rfl rfl ?_
    refine xG_aload_n d_RF_value_5 rfl rfl rfl ?_
    refine xG_geti d_RF_value_6 xf_RF_211 rfl s0_250 ?_
    refine xG_icmp_ge (tgt := 39) d_RF_value_9 (by decide) (fun c => ?_) (fun c => ?_)
    · have h := h.1 c
      refine xG_iconst (v := (-1)) d_RF_value_39 rfl ?_
      exact xG_ireturn d_RF_value_40 rfl rfl ⟨rfl, hL, _, rfl, h⟩
    · have h := h.2 c
      refine xG_iload_n d_RF_value_12 rfl rfl ?_
      refine xG_if_lt (tgt := 39) d_RF_value_13 (by decide) (fun c => ?_) (fun c => ?_)
      · have h := h.1 c
        refine xG_iconst (v := (-1)) d_RF_value_39 rfl ?_
        exact xG_ireturn d_RF_value_40 rfl rfl ⟨rfl, hL, _, rfl, h⟩
      · have h := h.2 c
        refine xG_iload_n d_RF_value_16 rfl rfl ?_
        refine xG_iconst (v := 4) d_RF_value_17 rfl ?_
        refine xG_icmp_gt (tgt := 39) d_RF_value_18 (by decide) (fun c => ?_) (fun c => ?_)
        · have h := h.1 c
          refine xG_iconst (v := (-1)) d_RF_value_39 rfl ?_
          exact xG_ireturn d_RF_value_40 rfl rfl ⟨rfl, hL, _, rfl, h⟩
        · have h := h.2 c
          refine xG_iload_n d_RF_value_21 rfl rfl ?_
          refine xG_if_lt (tgt := 39) d_RF_value_22 (by decide) (fun c => ?_) (fun c => ?_)
          · have h := h.1 c
            refine xG_iconst (v := (-1)) d_RF_value_39 rfl ?_
            exact xG_ireturn d_RF_value_40 rfl rfl ⟨rfl, hL, _, rfl, h⟩
          · have h := h.2 c
            refine xG_iload_n d_RF_value_25 rfl rfl ?_
            refine xG_aload_n d_RF_value_26 rfl rfl rfl ?_
            refine xG_getq d_RF_value_27 xf_RF_31 rfl s0_250 ?_
            refine xG_iconst (v := 5) d_RF_value_30 rfl ?_
            refine xG_iload_n d_RF_value_31 rfl rfl ?_
            refine xG_imul d_RF_value_32 ?_
            refine xG_iload_n d_RF_value_33 rfl rfl ?_
            refine xG_iadd d_RF_value_34 ?_
            refine xG_iald d_RF_value_35 (lp_250_28 hL) s0_258 h.1 ?_
            have h := h.2
            refine xG_topi (x' := I 258 (((5 * v1) + v2).toNatClampNeg)) (by first | rfl | exact xu_at | simp [xu]) ?_
            refine xG_icmp_lt (tgt := 41) d_RF_value_36 (by decide) (fun c => ?_) (fun c => ?_)
            · have h := h.1 c
              refine xG_bipush (v := 15) d_RF_value_41 rfl ?_
              refine xG_iload_n d_RF_value_43 rfl rfl ?_
              refine xG_imul d_RF_value_44 ?_
              refine xG_iconst (v := 3) d_RF_value_45 rfl ?_
              refine xG_iload_n d_RF_value_46 rfl rfl ?_
              refine xG_imul d_RF_value_47 ?_
              refine xG_iadd d_RF_value_48 ?_
              refine xG_iload_n d_RF_value_49 rfl rfl ?_
              refine xG_iadd d_RF_value_50 ?_
              refine xG_istore (lv' := [(5, xi (((15 * v1) + (3 * v2)) + v3)), (0, xq (some 250)), (1, xi v1), (2, xi v2), (3, xi v3), (4, xi v4)]) d_RF_value_51 (Nat.le_of_ble_eq_true rfl) rfl ?_
              refine xG_iload d_RF_value_53 rfl ?_
              refine xG_if_lt (tgt := 70) d_RF_value_55 (by decide) (fun c => ?_) (fun c => ?_)
              · have h := h.1 c
                refine xG_iconst (v := (-1)) d_RF_value_70 rfl ?_
                refine xG_goto (tgt := 87) d_RF_value_71 (by decide) ?_
                exact xG_ireturn d_RF_value_87 rfl rfl ⟨rfl, hL, _, rfl, h⟩
              · have h := h.2 c
                refine xG_iload d_RF_value_58 rfl ?_
                refine xG_aload_n d_RF_value_60 rfl rfl rfl ?_
                refine xG_getq d_RF_value_61 xf_RF_34 rfl s0_250 ?_
                refine xG_iload d_RF_value_64 rfl ?_
                refine xG_iald d_RF_value_66 (lp_250_29 hL) s0_259 h.1 ?_
                have h := h.2
                refine xG_topi (x' := I 259 ((((15 * v1) + (3 * v2)) + v3).toNatClampNeg)) (by first | rfl | exact xu_at | simp [xu]) ?_
                refine xG_icmp_lt (tgt := 74) d_RF_value_67 (by decide) (fun c => ?_) (fun c => ?_)
                · have h := h.1 c
                  refine xG_aload_n d_RF_value_74 rfl rfl rfl ?_
                  refine xG_getq d_RF_value_75 xf_RF_37 rfl s0_250 ?_
                  refine xG_bipush (v := 6) d_RF_value_78 rfl ?_
                  refine xG_iload d_RF_value_80 rfl ?_
                  refine xG_imul d_RF_value_82 ?_
                  refine xG_iload d_RF_value_83 rfl ?_
                  refine xG_iadd d_RF_value_85 ?_
                  refine xG_iald d_RF_value_86 (lp_250_30 hL) s0_260 h.1 ?_
                  have h := h.2
                  refine xG_topi (x' := I 260 (((6 * (((15 * v1) + (3 * v2)) + v3)) + v4).toNatClampNeg)) (by first | rfl | exact xu_at | simp [xu]) ?_
                  exact xG_ireturn d_RF_value_87 rfl rfl ⟨rfl, hL, _, rfl, h⟩
                · have h := h.2 c
                  refine xG_iconst (v := (-1)) d_RF_value_70 rfl ?_
                  refine xG_goto (tgt := 87) d_RF_value_71 (by decide) ?_
                  exact xG_ireturn d_RF_value_87 rfl rfl ⟨rfl, hL, _, rfl, h⟩
            · have h := h.2 c
              refine xG_iconst (v := (-1)) d_RF_value_39 rfl ?_
              exact xG_ireturn d_RF_value_40 rfl rfl ⟨rfl, hL, _, rfl, h⟩
theorem e_RF_value {l : Launch} {V : xV} {Q : Int32 → xIt → xJt → xPt → Prop} {I : xIt} {J : xJt} {P : xPt} {v1 : Int32} {v2 : Int32} {v3 : Int32} {v4 : Int32} (h : G_RF_value l V Q 0 [(0, xq (some 250)), (1, xi v1), (2, xi v2), (3, xi v3), (4, xi v4)] [] I J P) : xMet l V y_RF_value 1 0 0 [xq (some 250), xi v1, xi v2, xi v3, xi v4] xS0 I J P (xPi Q) := xMet_of (by decide) (Nat.le_of_ble_eq_true rfl) h

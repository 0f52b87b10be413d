abbrev G_DS_feed (l : Launch) (V : xV) (Q : Int32 → xIt → xJt → xPt → Prop) (pc : Nat) (lv : List (Nat × xX)) (st : List xX) (I : xIt) (J : xJt) (P : xPt) : Prop := xG l V y_DS_feed (xR 13 0 0) (xFn V y_DS_feed (xR 13 0 0) (xPi Q)) pc lv st xS0 I J P (0, 0)
set_option maxRecDepth 20000 in
theorem b_DS_feed_0 {l : Launch} {V : xV} {Q : Int32 → xIt → xJt → xPt → Prop} {I : xIt} {J : xJt} {P : xPt} (hL : xL P) {v1 : Int64} {v3 : Int32} (h : ((v3 < 1 → Q (-1) I J P) ∧ (¬ v3 < 1 → ((v3 ≤ 8 → G_DS_feed l V Q 24 [(0, xq (some 0)), (1, xj v1), (3, xi v3), (4, xi 0), (5, xi (8 * (v3 - 1)))] [] I J P) ∧ (¬ v3 ≤ 8 → Q (-1) I J P))))) : G_DS_feed l V Q 0 [(0, xq (some 0)), (1, xj v1), (3, xi v3)] [] I J P := by
  refine xG_iload_n d_DS_feed_0 rfl rfl ?_
  refine xG_iconst (v := 1) d_DS_feed_1 rfl ?_
  refine xG_icmp_lt (tgt := 11) d_DS_feed_2 (by decide) (fun c => ?_) (fun c => ?_)
  · have h := h.1 c
    refine xG_iconst (v := (-1)) d_DS_feed_11 rfl ?_
    exact xG_ireturn d_DS_feed_12 rfl rfl ⟨rfl, hL, _, rfl, h⟩
  · have h := h.2 c
    refine xG_iload_n d_DS_feed_5 rfl rfl ?_
    refine xG_bipush (v := 8) d_DS_feed_6 rfl ?_
    refine xG_icmp_le (tgt := 13) d_DS_feed_8 (by decide) (fun c => ?_) (fun c => ?_)
    · have h := h.1 c
      refine xG_iconst (v := 0) d_DS_feed_13 rfl ?_
      refine xG_istore (lv' := [(4, xi 0), (0, xq (some 0)), (1, xj v1), (3, xi v3)]) d_DS_feed_14 (Nat.le_of_ble_eq_true rfl) rfl ?_
      refine xG_bipush (v := 8) d_DS_feed_16 rfl ?_
      refine xG_iload_n d_DS_feed_18 rfl rfl ?_
      refine xG_iconst (v := 1) d_DS_feed_19 rfl ?_
      refine xG_isub d_DS_feed_20 ?_
      refine xG_imul d_DS_feed_21 ?_
      refine xG_istore (lv' := [(5, xi (8 * (v3 - 1))), (4, xi 0), (0, xq (some 0)), (1, xj v1), (3, xi v3)]) d_DS_feed_22 (Nat.le_of_ble_eq_true rfl) rfl ?_
      refine xG_pick [2, 3, 4, 1, 0] rfl ?_
      exact h
    · have h := h.2 c
      refine xG_iconst (v := (-1)) d_DS_feed_11 rfl ?_
      exact xG_ireturn d_DS_feed_12 rfl rfl ⟨rfl, hL, _, rfl, h⟩
set_option maxRecDepth 20000 in
theorem b_DS_feed_24 {l : Launch} {V : xV} {Q : Int32 → xIt → xJt → xPt → Prop} {I : xIt} {J : xJt} {P : xPt} (hL : xL P) {v1 : Int64} {v3 : Int32} {v4 : Int32} {v5 : Int32} (h : ((v5 < 0 → Q v4 I J P) ∧ (¬ v5 < 0 → (((I 0 1) = 0 → Q v4 I J P) ∧ (¬ (I 0 1) = 0 → ((153 ≤ (I 0 0) → Q v4 I J P) ∧ (¬ 153 ≤ (I 0 0) → (vp_in (I 0 0) 153 ∧ (∃ Q1 : Int32 → xIt → xJt → xPt → Prop, xMet l V y_DS_bytesToJudge 1 0 0 [xq (some 0)] xS0 (xu (xu I 2 ((I 0 0).toNatClampNeg) ((((v1.toUInt64 >>> (v5.toInt64.toUInt64 &&& Int64.toUInt64 63)).toInt64).toInt32) &&& 255)) 0 0 ((I 0 0) + 1)) J P (xPi Q1) ∧ ∀ (z1 : Int32) (I1 : xIt) (J1 : xJt) (P1 : xPt), Q1 z1 I1 J1 P1 → ((((I 0 0) + 1) < z1 → G_DS_feed l V Q 24 [(0, xq (some 0)), (1, xj v1), (3, xi v3), (4, xi v4), (5, xi (v5 + (-8)))] [] I1 J1 P1) ∧ (¬ ((I 0 0) + 1) < z1 → (∃ Q2 : Int32 → xIt → xJt → xPt → Prop, xMet l V y_RQ_decode 12 0 0 [xq (some 1), xi (I1 0 0)] xS0 I1 J1 P1 (xPi Q2) ∧ ∀ (z2 : Int32) (I2 : xIt) (J2 : xJt) (P2 : xPt), Q2 z2 I2 J2 P2 → (∃ Q3 : xIt → xJt → xPt → Prop, xMet l V y_DS_endMessage 3 0 0 [xq (some 0), xi z2] xS0 I2 J2 P2 (xPv Q3) ∧ ∀ (I3 : xIt) (J3 : xJt) (P3 : xPt), Q3 I3 J3 P3 → (((I3 0 1) = 0 → G_DS_feed l V Q 24 [(0, xq (some 0)), (1, xj v1), (3, xi v3), (4, xi (v4 + 1)), (5, xi (v5 + (-8)))] [] I3 J3 P3) ∧ (¬ (I3 0 1) = 0 → (∃ Q4 : Int32 → xIt → xJt → xPt → Prop, xMet l V y_DS_perform 7 0 0 [xq (some 0)] xS0 I3 J3 P3 (xPi Q4) ∧ ∀ (z4 : Int32) (I4 : xIt) (J4 : xJt) (P4 : xPt), Q4 z4 I4 J4 P4 → (∃ Q5 : xIt → xJt → xPt → Prop, xMet l V y_AN_writeResult 3 0 0 [xq (some 248), xi (I4 1 2), xi (I4 1 3), xi z4] xS0 (xu I4 0 3 z4) J4 P4 (xPv Q5) ∧ ∀ (I5 : xIt) (J5 : xJt) (P5 : xPt), Q5 I5 J5 P5 → G_DS_feed l V Q 24 [(0, xq (some 0)), (1, xj v1), (3, xi v3), (4, xi (v4 + 1)), (5, xi (v5 + (-8)))] [] I5 J5 P5))))))))))))))))) : G_DS_feed l V Q 24 [(0, xq (some 0)), (1, xj v1), (3, xi v3), (4, xi v4), (5, xi v5)] [] I J P := by
  refine xG_iload d_DS_feed_24 rfl ?_
  refine xG_if_lt (tgt := 152) d_DS_feed_26 (by decide) (fun c => ?_) (fun c => ?_)
  · have h := h.1 c
    refine xG_iload d_DS_feed_152 rfl ?_
    exact xG_ireturn d_DS_feed_154 rfl rfl ⟨rfl, hL, _, rfl, h⟩
  · have h := h.2 c
    refine xG_aload_n d_DS_feed_29 rfl rfl rfl ?_
    refine xG_geti d_DS_feed_30 xf_DS_13 rfl s0_0 ?_
    refine xG_if_eq (tgt := 152) d_DS_feed_33 (by decide) (fun c => ?_) (fun c => ?_)
    · have h := h.1 c
      refine xG_iload d_DS_feed_152 rfl ?_
      exact xG_ireturn d_DS_feed_154 rfl rfl ⟨rfl, hL, _, rfl, h⟩
    · have h := h.2 c
      refine xG_aload_n d_DS_feed_36 rfl rfl rfl ?_
      refine xG_geti d_DS_feed_37 xf_DS_9 rfl s0_0 ?_
      refine xG_sipush (v := 153) d_DS_feed_40 rfl ?_
      refine xG_icmp_ge (tgt := 152) d_DS_feed_43 (by decide) (fun c => ?_) (fun c => ?_)
      · have h := h.1 c
        refine xG_iload d_DS_feed_152 rfl ?_
        exact xG_ireturn d_DS_feed_154 rfl rfl ⟨rfl, hL, _, rfl, h⟩
      · have h := h.2 c
        refine xG_aload_n d_DS_feed_46 rfl rfl rfl ?_
        refine xG_getq d_DS_feed_47 xf_DS_30 rfl s0_0 ?_
        refine xG_getq d_DS_feed_50 xf_DS_65 (lp_0_5 hL) s0_1 ?_
        refine xG_aload_n d_DS_feed_53 rfl rfl rfl ?_
        refine xG_geti d_DS_feed_54 xf_DS_9 rfl s0_0 ?_
        refine xG_lload_n d_DS_feed_57 rfl rfl ?_
        refine xG_iload d_DS_feed_58 rfl ?_
        refine xG_lushr d_DS_feed_60 ?_
        refine xG_l2i d_DS_feed_61 ?_
        refine xG_sipush (v := 255) d_DS_feed_62 rfl ?_
        refine xG_iand d_DS_feed_65 ?_
        refine xG_iast d_DS_feed_66 (lp_1_0 hL) s0_2 h.1 ?_
        have h := h.2
        refine xG_aload_n d_DS_feed_67 rfl rfl rfl ?_
        refine xG_dup d_DS_feed_68 rfl ?_
        refine xG_geti d_DS_feed_69 xf_DS_9 rfl s0_0 ?_
        refine xG_topi (x' := I 0 0) (by first | rfl | exact xu_at | simp [xu]) ?_
        refine xG_iconst (v := 1) d_DS_feed_72 rfl ?_
        refine xG_iadd d_DS_feed_73 ?_
        refine xG_puti d_DS_feed_74 xf_DS_9 (Or.inl rfl) rfl s0_0 rfl rfl ?_
        refine xG_aload_n d_DS_feed_77 rfl rfl rfl ?_
        refine xG_geti d_DS_feed_78 xf_DS_9 rfl s0_0 ?_
        refine xG_topi (x' := (I 0 0) + 1) (by first | rfl | exact xu_at | simp [xu]) ?_
        refine xG_aload_n d_DS_feed_81 rfl rfl rfl ?_
        obtain ⟨Q1, hM, h⟩ := h
        refine xG_callv (as := []) (rest := [xi ((I 0 0) + 1)]) d_DS_feed_82 yv_DS_bytesToJudge w2_42 rfl rfl rfl s0_0 (by decide) rfl hM ⟨by decide, by decide⟩ (Nat.le_of_ble_eq_true rfl) ⟨Nat.zero_le _, Nat.zero_le _⟩ (fun r S1 I1 J1 P1 hp => ?_)
        obtain ⟨rfl, hL1, z1, rfl, hq⟩ := hp
        have h := h z1 I1 J1 P1 hq
        refine xG_icmp_lt (tgt := 146) d_DS_feed_85 (by decide) (fun c => ?_) (fun c => ?_)
        · have h := h.1 c
          refine xG_iinc (v := v5 + (-8)) (lv' := [(5, xi (v5 + (-8))), (0, xq (some 0)), (1, xj v1), (3, xi v3), (4, xi v4)]) d_DS_feed_146 rfl rfl (Nat.le_of_ble_eq_true rfl) rfl ?_
          refine xG_goto (tgt := 24) d_DS_feed_149 (by decide) ?_
          refine xG_pick [1, 2, 3, 4, 0] rfl ?_
          exact h
        · have h := h.2 c
          refine xG_iinc (v := v4 + 1) (lv' := [(4, xi (v4 + 1)), (0, xq (some 0)), (1, xj v1), (3, xi v3), (5, xi v5)]) d_DS_feed_88 rfl rfl (Nat.le_of_ble_eq_true rfl) rfl ?_
          refine xG_aload_n d_DS_feed_91 rfl rfl rfl ?_
          refine xG_aload_n d_DS_feed_92 rfl rfl rfl ?_
          refine xG_getq d_DS_feed_93 xf_DS_30 rfl s0_0 ?_
          refine xG_aload_n d_DS_feed_96 rfl rfl rfl ?_
          refine xG_geti d_DS_feed_97 xf_DS_9 rfl s0_0 ?_
          obtain ⟨Q2, hM, h⟩ := h
          refine xG_callv (as := [xi (I1 0 0)]) (rest := [xq (some 0)]) d_DS_feed_100 yv_RQ_decode w2_46 rfl (lp_0_5 hL1) rfl s0_1 (by decide) rfl hM ⟨by decide, by decide⟩ (Nat.le_of_ble_eq_true rfl) ⟨Nat.zero_le _, Nat.zero_le _⟩ (fun r S2 I2 J2 P2 hp => ?_)
          obtain ⟨rfl, hL2, z2, rfl, hq⟩ := hp
          have h := h z2 I2 J2 P2 hq
          obtain ⟨Q3, hM, h⟩ := h
          refine xG_callv (as := [xi z2]) (rest := []) d_DS_feed_103 yv_DS_endMessage w2_111 rfl rfl rfl s0_0 (by decide) rfl hM ⟨by decide, by decide⟩ (Nat.le_of_ble_eq_true rfl) ⟨Nat.zero_le _, Nat.zero_le _⟩ (fun r S3 I3 J3 P3 hp => ?_)
          obtain ⟨rfl, hL3, rfl, hq⟩ := hp
          have h := h I3 J3 P3 hq
          refine xG_aload_n d_DS_feed_106 rfl rfl rfl ?_
          refine xG_geti d_DS_feed_107 xf_DS_13 rfl s0_0 ?_
          refine xG_if_eq (tgt := 146) d_DS_feed_110 (by decide) (fun c => ?_) (fun c => ?_)
          · have h := h.1 c
            refine xG_iinc (v := v5 + (-8)) (lv' := [(5, xi (v5 + (-8))), (4, xi (v4 + 1)), (0, xq (some 0)), (1, xj v1), (3, xi v3)]) d_DS_feed_146 rfl rfl (Nat.le_of_ble_eq_true rfl) rfl ?_
            refine xG_goto (tgt := 24) d_DS_feed_149 (by decide) ?_
            refine xG_pick [2, 3, 4, 1, 0] rfl ?_
            exact h
          · have h := h.2 c
            refine xG_aload_n d_DS_feed_113 rfl rfl rfl ?_
            refine xG_aload_n d_DS_feed_114 rfl rfl rfl ?_
            obtain ⟨Q4, hM, h⟩ := h
            refine xG_callv (as := []) (rest := [xq (some 0)]) d_DS_feed_115 yv_DS_perform w2_129 rfl rfl rfl s0_0 (by decide) rfl hM ⟨by decide, by decide⟩ (Nat.le_of_ble_eq_true rfl) ⟨Nat.zero_le _, Nat.zero_le _⟩ (fun r S4 I4 J4 P4 hp => ?_)
            obtain ⟨rfl, hL4, z4, rfl, hq⟩ := hp
            have h := h z4 I4 J4 P4 hq
            refine xG_puti d_DS_feed_118 xf_DS_21 (Or.inl rfl) rfl s0_0 rfl rfl ?_
            refine xG_aload_n d_DS_feed_121 rfl rfl rfl ?_
            refine xG_getq d_DS_feed_122 xf_DS_61 rfl s0_0 ?_
            refine xG_aload_n d_DS_feed_125 rfl rfl rfl ?_
            refine xG_getq d_DS_feed_126 xf_DS_30 rfl s0_0 ?_
            refine xG_geti d_DS_feed_129 xf_DS_84 (lp_0_5 hL4) s0_1 ?_
            refine xG_topi (x' := I4 1 2) (by first | rfl | exact xu_at | simp [xu]) ?_
            refine xG_aload_n d_DS_feed_132 rfl rfl rfl ?_
            refine xG_getq d_DS_feed_133 xf_DS_30 rfl s0_0 ?_
            refine xG_geti d_DS_feed_136 xf_DS_87 (lp_0_5 hL4) s0_1 ?_
            refine xG_topi (x' := I4 1 3) (by first | rfl | exact xu_at | simp [xu]) ?_
            refine xG_aload_n d_DS_feed_139 rfl rfl rfl ?_
            refine xG_geti d_DS_feed_140 xf_DS_21 rfl s0_0 ?_
            refine xG_topi (x' := z4) (by first | rfl | exact xu_at | simp [xu]) ?_
            obtain ⟨Q5, hM, h⟩ := h
            refine xG_callv (as := [xi (I4 1 2), xi (I4 1 3), xi z4]) (rest := []) d_DS_feed_143 yv_AN_writeResult w3_197 rfl (lp_0_10 hL4) rfl s0_248 (by decide) rfl hM ⟨by decide, by decide⟩ (Nat.le_of_ble_eq_true rfl) ⟨Nat.zero_le _, Nat.zero_le _⟩ (fun r S5 I5 J5 P5 hp => ?_)
            obtain ⟨rfl, hL5, rfl, hq⟩ := hp
            have h := h I5 J5 P5 hq
            refine xG_iinc (v := v5 + (-8)) (lv' := [(5, xi (v5 + (-8))), (4, xi (v4 + 1)), (0, xq (some 0)), (1, xj v1), (3, xi v3)]) d_DS_feed_146 rfl rfl (Nat.le_of_ble_eq_true rfl) rfl ?_
            refine xG_goto (tgt := 24) d_DS_feed_149 (by decide) ?_
            refine xG_pick [2, 3, 4, 1, 0] rfl ?_
            exact h
theorem e_DS_feed {l : Launch} {V : xV} {Q : Int32 → xIt → xJt → xPt → Prop} {I : xIt} {J : xJt} {P : xPt} {v1 : Int64} {v3 : Int32} (h : G_DS_feed l V Q 0 [(0, xq (some 0)), (1, xj v1), (3, xi v3)] [] I J P) : xMet l V y_DS_feed 13 0 0 [xq (some 0), xj v1, xi v3] xS0 I J P (xPi Q) := xMet_of (by decide) (Nat.le_of_ble_eq_true rfl) h

abbrev G_DS_connect (l : Launch) (V : xV) (Q : xIt → xJt → xPt → Prop) (pc : Nat) (lv : List (Nat × xX)) (st : List xX) (I : xIt) (J : xJt) (P : xPt) : Prop := xG l V y_DS_connect (xR 1 0 0) (xFn V y_DS_connect (xR 1 0 0) (xPv Q)) pc lv st xS0 I J P (0, 0)
set_option maxRecDepth 20000 in
theorem b_DS_connect_0 {l : Launch} {V : xV} {Q : xIt → xJt → xPt → Prop} {I : xIt} {J : xJt} {P : xPt} (hL : xL P)  (h : (xL (xu P 0 2 none) ∧ Q (xu (xu I 0 1 1) 0 0 0) J (xu P 0 2 none))) : G_DS_connect l V Q 0 [(0, xq (some 0))] [] I J P := by
  refine xG_aload_n d_DS_connect_0 rfl rfl rfl ?_
  refine xG_iconst (v := 1) d_DS_connect_1 rfl ?_
  refine xG_puti d_DS_connect_2 xf_DS_13 (Or.inl rfl) rfl s0_0 rfl rfl ?_
  refine xG_aload_n d_DS_connect_5 rfl rfl rfl ?_
  refine xG_null d_DS_connect_6 ?_
  refine xG_putq d_DS_connect_7 xf_DS_17 (Or.inl rfl) rfl s0_0 ?_
  have hL1 := h.1
  have h := h.2
  refine xG_aload_n d_DS_connect_10 rfl rfl rfl ?_
  refine xG_iconst (v := 0) d_DS_connect_11 rfl ?_
  refine xG_puti d_DS_connect_12 xf_DS_9 (Or.inl rfl) rfl s0_0 rfl rfl ?_
  exact xG_return d_DS_connect_15 rfl ⟨rfl, hL1, rfl, h⟩
theorem e_DS_connect {l : Launch} {V : xV} {Q : xIt → xJt → xPt → Prop} {I : xIt} {J : xJt} {P : xPt}  (h : G_DS_connect l V Q 0 [(0, xq (some 0))] [] I J P) : xMet l V y_DS_connect 1 0 0 [xq (some 0)] xS0 I J P (xPv Q) := xMet_of (by decide) (Nat.le_of_ble_eq_true rfl) h

abbrev G_DS_open (l : Launch) (V : xV) (Q : Int32 → xIt → xJt → xPt → Prop) (pc : Nat) (lv : List (Nat × xX)) (st : List xX) (I : xIt) (J : xJt) (P : xPt) : Prop := xG l V y_DS_open (xR 1 0 0) (xFn V y_DS_open (xR 1 0 0) (xPi Q)) pc lv st xS0 I J P (0, 0)
set_option maxRecDepth 20000 in
theorem b_DS_open_0 {l : Launch} {V : xV} {Q : Int32 → xIt → xJt → xPt → Prop} {I : xIt} {J : xJt} {P : xPt} (hL : xL P)  (h : ((I 0 1 = 0 ∨ I 0 1 = 1) ∧ Q (I 0 1) I J P)) : G_DS_open l V Q 0 [(0, xq (some 0))] [] I J P := by
  refine xG_aload_n d_DS_open_0 rfl rfl rfl ?_
  refine xG_geti d_DS_open_1 xf_DS_13 rfl s0_0 ?_
  exact xG_ireturn d_DS_open_4 rfl (x_nb h.1) ⟨rfl, hL, _, rfl, h.2⟩
theorem e_DS_open {l : Launch} {V : xV} {Q : Int32 → xIt → xJt → xPt → Prop} {I : xIt} {J : xJt} {P : xPt}  (h : G_DS_open l V Q 0 [(0, xq (some 0))] [] I J P) : xMet l V y_DS_open 1 0 0 [xq (some 0)] xS0 I J P (xPi Q) := xMet_of (by decide) (Nat.le_of_ble_eq_true rfl) h

abbrev G_DS_kept (l : Launch) (V : xV) (Q : Int32 → xIt → xJt → xPt → Prop) (pc : Nat) (lv : List (Nat × xX)) (st : List xX) (I : xIt) (J : xJt) (P : xPt) : Prop := xG l V y_DS_kept (xR 1 0 0) (xFn V y_DS_kept (xR 1 0 0) (xPi Q)) pc lv st xS0 I J P (0, 0)
set_option maxRecDepth 20000 in
theorem b_DS_kept_0 {l : Launch} {V : xV} {Q : Int32 → xIt → xJt → xPt → Prop} {I : xIt} {J : xJt} {P : xPt} (hL : xL P)  (h : Q (I 0 0) I J P) : G_DS_kept l V Q 0 [(0, xq (some 0))] [] I J P := by
  refine xG_aload_n d_DS_kept_0 rfl rfl rfl ?_
  refine xG_geti d_DS_kept_1 xf_DS_9 rfl s0_0 ?_
  exact xG_ireturn d_DS_kept_4 rfl rfl ⟨rfl, hL, _, rfl, h⟩
theorem e_DS_kept {l : Launch} {V : xV} {Q : Int32 → xIt → xJt → xPt → Prop} {I : xIt} {J : xJt} {P : xPt}  (h : G_DS_kept l V Q 0 [(0, xq (some 0))] [] I J P) : xMet l V y_DS_kept 1 0 0 [xq (some 0)] xS0 I J P (xPi Q) := xMet_of (by decide) (Nat.le_of_ble_eq_true rfl) h

abbrev G_DS_bound (l : Launch) (V : xV) (Q : Int32 → xIt → xJt → xPt → Prop) (pc : Nat) (lv : List (Nat × xX)) (st : List xX) (I : xIt) (J : xJt) (P : xPt) : Prop := xG l V y_DS_bound (xR 2 0 0) (xFn V y_DS_bound (xR 2 0 0) (xPi Q)) pc lv st xS0 I J P (0, 0)
set_option maxRecDepth 20000 in
theorem b_DS_bound_0 {l : Launch} {V : xV} {Q : Int32 → xIt → xJt → xPt → Prop} {I : xIt} {J : xJt} {P : xPt} (hL : xL P)  (h : ((¬ P 0 2 = none → (∃ Q1 : Int32 → xIt → xJt → xPt → Prop, xMet l V y_TR_placeOf 1 0 0 [xq (some 21), xq (P 0 2)] xS0 I J P (xPi Q1) ∧ ∀ (z1 : Int32) (I1 : xIt) (J1 : xJt) (P1 : xPt), Q1 z1 I1 J1 P1 → Q z1 I1 J1 P1)) ∧ (P 0 2 = none → Q (-1) I J P))) : G_DS_bound l V Q 0 [(0, xq (some 0))] [] I J P := by
  refine xG_aload_n d_DS_bound_0 rfl rfl rfl ?_
  refine xG_getq d_DS_bound_1 xf_DS_17 rfl s0_0 ?_
  refine xG_ifnonnull (tgt := 11) d_DS_bound_4 (by decide) (fun c => ?_) (fun c => ?_)
  · have h := h.1 c
    refine xG_aload_n d_DS_bound_11 rfl rfl rfl ?_
    refine xG_getq d_DS_bound_12 xf_DS_47 rfl s0_0 ?_
    refine xG_aload_n d_DS_bound_15 rfl rfl rfl ?_
    refine xG_getq d_DS_bound_16 xf_DS_17 rfl s0_0 ?_
    obtain ⟨Q1, hM, h⟩ := h
    refine xG_callv (as := [xq (P 0 2)]) (rest := []) d_DS_bound_19 yv_TR_placeOf w3_220 rfl (lp_0_8 hL) rfl s0_21 (by decide) rfl hM ⟨by decide, by decide⟩ (Nat.le_of_ble_eq_true rfl) ⟨Nat.zero_le _, Nat.zero_le _⟩ (fun r S1 I1 J1 P1 hp => ?_)
    obtain ⟨rfl, hL1, z1, rfl, hq⟩ := hp
    have h := h z1 I1 J1 P1 hq
    exact xG_ireturn d_DS_bound_22 rfl rfl ⟨rfl, hL1, _, rfl, h⟩
  · have h := h.2 c
    refine xG_iconst (v := (-1)) d_DS_bound_7 rfl ?_
    refine xG_goto (tgt := 22) d_DS_bound_8 (by decide) ?_
    exact xG_ireturn d_DS_bound_22 rfl rfl ⟨rfl, hL, _, rfl, h⟩
theorem e_DS_bound {l : Launch} {V : xV} {Q : Int32 → xIt → xJt → xPt → Prop} {I : xIt} {J : xJt} {P : xPt}  (h : G_DS_bound l V Q 0 [(0, xq (some 0))] [] I J P) : xMet l V y_DS_bound 2 0 0 [xq (some 0)] xS0 I J P (xPi Q) := xMet_of (by decide) (Nat.le_of_ble_eq_true rfl) h

abbrev G_DS_code (l : Launch) (V : xV) (Q : Int32 → xIt → xJt → xPt → Prop) (pc : Nat) (lv : List (Nat × xX)) (st : List xX) (I : xIt) (J : xJt) (P : xPt) : Prop := xG l V y_DS_code (xR 1 0 0) (xFn V y_DS_code (xR 1 0 0) (xPi Q)) pc lv st xS0 I J P (0, 0)
set_option maxRecDepth 20000 in
theorem b_DS_code_0 {l : Launch} {V : xV} {Q : Int32 → xIt → xJt → xPt → Prop} {I : xIt} {J : xJt} {P : xPt} (hL : xL P)  (h : Q (I 0 3) I J P) : G_DS_code l V Q 0 [(0, xq (some 0))] [] I J P := by
  refine xG_aload_n d_DS_code_0 rfl rfl rfl ?_
  refine xG_geti d_DS_code_1 xf_DS_21 rfl s0_0 ?_
  exact xG_ireturn d_DS_code_4 rfl rfl ⟨rfl, hL, _, rfl, h⟩
theorem e_DS_code {l : Launch} {V : xV} {Q : Int32 → xIt → xJt → xPt → Prop} {I : xIt} {J : xJt} {P : xPt}  (h : G_DS_code l V Q 0 [(0, xq (some 0))] [] I J P) : xMet l V y_DS_code 1 0 0 [xq (some 0)] xS0 I J P (xPi Q) := xMet_of (by decide) (Nat.le_of_ble_eq_true rfl) h

abbrev G_DS_found (l : Launch) (V : xV) (Q : Int32 → xIt → xJt → xPt → Prop) (pc : Nat) (lv : List (Nat × xX)) (st : List xX) (I : xIt) (J : xJt) (P : xPt) : Prop := xG l V y_DS_found (xR 1 0 0) (xFn V y_DS_found (xR 1 0 0) (xPi Q)) pc lv st xS0 I J P (0, 0)
set_option maxRecDepth 20000 in
theorem b_DS_found_0 {l : Launch} {V : xV} {Q : Int32 → xIt → xJt → xPt → Prop} {I : xIt} {J : xJt} {P : xPt} (hL : xL P)  (h : Q (I 0 4) I J P) : G_DS_found l V Q 0 [(0, xq (some 0))] [] I J P := by
  refine xG_aload_n d_DS_found_0 rfl rfl rfl ?_
  refine xG_geti d_DS_found_1 xf_DS_24 rfl s0_0 ?_
  exact xG_ireturn d_DS_found_4 rfl rfl ⟨rfl, hL, _, rfl, h⟩
theorem e_DS_found {l : Launch} {V : xV} {Q : Int32 → xIt → xJt → xPt → Prop} {I : xIt} {J : xJt} {P : xPt}  (h : G_DS_found l V Q 0 [(0, xq (some 0))] [] I J P) : xMet l V y_DS_found 1 0 0 [xq (some 0)] xS0 I J P (xPi Q) := xMet_of (by decide) (Nat.le_of_ble_eq_true rfl) h

abbrev G_DS_length (l : Launch) (V : xV) (Q : Int32 → xIt → xJt → xPt → Prop) (pc : Nat) (lv : List (Nat × xX)) (st : List xX) (I : xIt) (J : xJt) (P : xPt) : Prop := xG l V y_DS_length (xR 1 0 0) (xFn V y_DS_length (xR 1 0 0) (xPi Q)) pc lv st xS0 I J P (0, 0)
set_option maxRecDepth 20000 in
theorem b_DS_length_0 {l : Launch} {V : xV} {Q : Int32 → xIt → xJt → xPt → Prop} {I : xIt} {J : xJt} {P : xPt} (hL : xL P)  (h : Q (I 248 1) I J P) : G_DS_length l V Q 0 [(0, xq (some 0))] [] I J P := by
  refine xG_aload_n d_DS_length_0 rfl rfl rfl ?_
  refine xG_getq d_DS_length_1 xf_DS_61 rfl s0_0 ?_
  refine xG_geti d_DS_length_4 xf_DS_98 (lp_0_10 hL) s0_248 ?_
  exact xG_ireturn d_DS_length_7 rfl rfl ⟨rfl, hL, _, rfl, h⟩
theorem e_DS_length {l : Launch} {V : xV} {Q : Int32 → xIt → xJt → xPt → Prop} {I : xIt} {J : xJt} {P : xPt}  (h : G_DS_length l V Q 0 [(0, xq (some 0))] [] I J P) : xMet l V y_DS_length 1 0 0 [xq (some 0)] xS0 I J P (xPi Q) := xMet_of (by decide) (Nat.le_of_ble_eq_true rfl) h

abbrev G_DS_output (l : Launch) (V : xV) (Q : Int64 → xIt → xJt → xPt → Prop) (pc : Nat) (lv : List (Nat × xX)) (st : List xX) (I : xIt) (J : xJt) (P : xPt) : Prop := xG l V y_DS_output (xR 2 0 0) (xFn V y_DS_output (xR 2 0 0) (xPl Q)) pc lv st xS0 I J P (0, 0)
set_option maxRecDepth 20000 in
theorem b_DS_output_0 {l : Launch} {V : xV} {Q : Int64 → xIt → xJt → xPt → Prop} {I : xIt} {J : xJt} {P : xPt} (hL : xL P) {v1 : Int32} (h : (∃ Q1 : Int64 → xIt → xJt → xPt → Prop, xMet l V y_AN_eightBytes 1 0 0 [xq (some 248), xi v1] xS0 I J P (xPl Q1) ∧ ∀ (z1 : Int64) (I1 : xIt) (J1 : xJt) (P1 : xPt), Q1 z1 I1 J1 P1 → Q z1 I1 J1 P1)) : G_DS_output l V Q 0 [(0, xq (some 0)), (1, xi v1)] [] I J P := by
  refine xG_aload_n d_DS_output_0 rfl rfl rfl ?_
  refine xG_getq d_DS_output_1 xf_DS_61 rfl s0_0 ?_
  refine xG_iload_n d_DS_output_4 rfl rfl ?_
  obtain ⟨Q1, hM, h⟩ := h
  refine xG_callv (as := [xi v1]) (rest := []) d_DS_output_5 yv_AN_eightBytes w3_237 rfl (lp_0_10 hL) rfl s0_248 (by decide) rfl hM ⟨by decide, by decide⟩ (Nat.le_of_ble_eq_true rfl) ⟨Nat.zero_le _, Nat.zero_le _⟩ (fun r S1 I1 J1 P1 hp => ?_)
  obtain ⟨rfl, hL1, z1, rfl, hq⟩ := hp
  have h := h z1 I1 J1 P1 hq
  exact xG_lreturn d_DS_output_8 rfl ⟨rfl, hL1, _, rfl, h⟩
theorem e_DS_output {l : Launch} {V : xV} {Q : Int64 → xIt → xJt → xPt → Prop} {I : xIt} {J : xJt} {P : xPt} {v1 : Int32} (h : G_DS_output l V Q 0 [(0, xq (some 0)), (1, xi v1)] [] I J P) : xMet l V y_DS_output 2 0 0 [xq (some 0), xi v1] xS0 I J P (xPl Q) := xMet_of (by decide) (Nat.le_of_ble_eq_true rfl) h

abbrev G_DS_entries (l : Launch) (V : xV) (Q : Int32 → xIt → xJt → xPt → Prop) (pc : Nat) (lv : List (Nat × xX)) (st : List xX) (I : xIt) (J : xJt) (P : xPt) : Prop := xG l V y_DS_entries (xR 1 0 0) (xFn V y_DS_entries (xR 1 0 0) (xPi Q)) pc lv st xS0 I J P (0, 0)
set_option maxRecDepth 20000 in
theorem b_DS_entries_0 {l : Launch} {V : xV} {Q : Int32 → xIt → xJt → xPt → Prop} {I : xIt} {J : xJt} {P : xPt} (hL : xL P)  (h : Q (I 21 1) I J P) : G_DS_entries l V Q 0 [(0, xq (some 0))] [] I J P := by
  refine xG_aload_n d_DS_entries_0 rfl rfl rfl ?_
  refine xG_getq d_DS_entries_1 xf_DS_47 rfl s0_0 ?_
  refine xG_geti d_DS_entries_4 xf_DS_105 (lp_0_8 hL) s0_21 ?_
  exact xG_ireturn d_DS_entries_7 rfl rfl ⟨rfl, hL, _, rfl, h⟩
theorem e_DS_entries {l : Launch} {V : xV} {Q : Int32 → xIt → xJt → xPt → Prop} {I : xIt} {J : xJt} {P : xPt}  (h : G_DS_entries l V Q 0 [(0, xq (some 0))] [] I J P) : xMet l V y_DS_entries 1 0 0 [xq (some 0)] xS0 I J P (xPi Q) := xMet_of (by decide) (Nat.le_of_ble_eq_true rfl) h

abbrev G_DS_parent (l : Launch) (V : xV) (Q : Int32 → xIt → xJt → xPt → Prop) (pc : Nat) (lv : List (Nat × xX)) (st : List xX) (I : xIt) (J : xJt) (P : xPt) : Prop := xG l V y_DS_parent (xR 2 0 0) (xFn V y_DS_parent (xR 2 0 0) (xPi Q)) pc lv st xS0 I J P (0, 0)
set_option maxRecDepth 20000 in
theorem b_DS_parent_0 {l : Launch} {V : xV} {Q : Int32 → xIt → xJt → xPt → Prop} {I : xIt} {J : xJt} {P : xPt} (hL : xL P) {v1 : Int32} (h : (∃ Q1 : Option Nat → xIt → xJt → xPt → Prop, xMet l V y_TR_entryAt 1 0 0 [xq (some 21), xi v1] xS0 I J P (xPq Q1) ∧ ∀ (z1 : Option Nat) (I1 : xIt) (J1 : xJt) (P1 : xPt), Q1 z1 I1 J1 P1 → ((¬ z1 = none → (∃ a2 : Nat, z1 = some a2 ∧ xS0[a2]? = some (5, 0) ∧ ((¬ P1 a2 1 = none → (∃ Q3 : Int32 → xIt → xJt → xPt → Prop, xMet l V y_TR_placeOf 1 0 0 [xq (some 21), xq (P1 a2 1)] xS0 I1 J1 P1 (xPi Q3) ∧ ∀ (z3 : Int32) (I3 : xIt) (J3 : xJt) (P3 : xPt), Q3 z3 I3 J3 P3 → Q z3 I3 J3 P3)) ∧ (P1 a2 1 = none → Q (-1) I1 J1 P1)))) ∧ (z1 = none → Q (-2) I1 J1 P1)))) : G_DS_parent l V Q 0 [(0, xq (some 0)), (1, xi v1)] [] I J P := by
  refine xG_aload_n d_DS_parent_0 rfl rfl rfl ?_
  refine xG_getq d_DS_parent_1 xf_DS_47 rfl s0_0 ?_
  refine xG_iload_n d_DS_parent_4 rfl rfl ?_
  obtain ⟨Q1, hM, h⟩ := h
  refine xG_callv (as := [xi v1]) (rest := []) d_DS_parent_5 yv_TR_entryAt w4_9 rfl (lp_0_8 hL) rfl s0_21 (by decide) rfl hM ⟨by decide, by decide⟩ (Nat.le_of_ble_eq_true rfl) ⟨Nat.zero_le _, Nat.zero_le _⟩ (fun r S1 I1 J1 P1 hp => ?_)
  obtain ⟨rfl, hL1, z1, rfl, hq⟩ := hp
  have h := h z1 I1 J1 P1 hq
  refine xG_astore_n (lv' := [(2, xq z1), (0, xq (some 0)), (1, xi v1)]) d_DS_parent_8 rfl (Nat.le_of_ble_eq_true rfl) rfl rfl ?_
  refine xG_aload_n d_DS_parent_9 rfl rfl rfl ?_
  refine xG_ifnonnull (tgt := 16) d_DS_parent_10 (by decide) (fun c => ?_) (fun c => ?_)
  · have h := h.1 c
    refine xG_aload_n d_DS_parent_16 rfl rfl rfl ?_
    obtain ⟨a2, e2, s2, h⟩ := h
    refine xG_getq d_DS_parent_17 xf_DS_112 e2 s2 ?_
    refine xG_ifnonnull (tgt := 27) d_DS_parent_20 (by decide) (fun c => ?_) (fun c => ?_)
    · have h := h.1 c
      refine xG_aload_n d_DS_parent_27 rfl rfl rfl ?_
      refine xG_getq d_DS_parent_28 xf_DS_47 rfl s0_0 ?_
      refine xG_aload_n d_DS_parent_31 rfl rfl rfl ?_
      refine xG_getq d_DS_parent_32 xf_DS_112 e2 s2 ?_
      obtain ⟨Q3, hM, h⟩ := h
      refine xG_callv (as := [xq (P1 a2 1)]) (rest := []) d_DS_parent_35 yv_TR_placeOf w3_220 rfl (lp_0_8 hL1) rfl s0_21 (by decide) rfl hM ⟨by decide, by decide⟩ (Nat.le_of_ble_eq_true rfl) ⟨Nat.zero_le _, Nat.zero_le _⟩ (fun r S3 I3 J3 P3 hp => ?_)
      obtain ⟨rfl, hL3, z3, rfl, hq⟩ := hp
      have h := h z3 I3 J3 P3 hq
      exact xG_ireturn d_DS_parent_38 rfl rfl ⟨rfl, hL3, _, rfl, h⟩
    · have h := h.2 c
      refine xG_iconst (v := (-1)) d_DS_parent_23 rfl ?_
      refine xG_goto (tgt := 38) d_DS_parent_24 (by decide) ?_
      exact xG_ireturn d_DS_parent_38 rfl rfl ⟨rfl, hL1, _, rfl, h⟩
  · have h := h.2 c
    refine xG_bipush (v := (-2)) d_DS_parent_13 rfl ?_
    exact xG_ireturn d_DS_parent_15 rfl rfl ⟨rfl, hL1, _, rfl, h⟩
theorem e_DS_parent {l : Launch} {V : xV} {Q : Int32 → xIt → xJt → xPt → Prop} {I : xIt} {J : xJt} {P : xPt} {v1 : Int32} (h : G_DS_parent l V Q 0 [(0, xq (some 0)), (1, xi v1)] [] I J P) : xMet l V y_DS_parent 2 0 0 [xq (some 0), xi v1] xS0 I J P (xPi Q) := xMet_of (by decide) (Nat.le_of_ble_eq_true rfl) h

abbrev G_DS_values (l : Launch) (V : xV) (Q : Int32 → xIt → xJt → xPt → Prop) (pc : Nat) (lv : List (Nat × xX)) (st : List xX) (I : xIt) (J : xJt) (P : xPt) : Prop := xG l V y_DS_values (xR 2 0 0) (xFn V y_DS_values (xR 2 0 0) (xPi Q)) pc lv st xS0 I J P (0, 0)
set_option maxRecDepth 20000 in
theorem b_DS_values_0 {l : Launch} {V : xV} {Q : Int32 → xIt → xJt → xPt → Prop} {I : xIt} {J : xJt} {P : xPt} (hL : xL P) {v1 : Int32} {v2 : Int32} (h : (∃ Q1 : Option Nat → xIt → xJt → xPt → Prop, xMet l V y_TR_entryAt 1 0 0 [xq (some 21), xi v1] xS0 I J P (xPq Q1) ∧ ∀ (z1 : Option Nat) (I1 : xIt) (J1 : xJt) (P1 : xPt), Q1 z1 I1 J1 P1 → ((z1 = none → Q (-1) I1 J1 P1) ∧ (¬ z1 = none → ((v2 < 0 → Q (-1) I1 J1 P1) ∧ (¬ v2 < 0 → ((v2 < 5 → (∃ a2 : Nat, z1 = some a2 ∧ xS0[a2]? = some (5, 0) ∧ (vp_in v2 5 ∧ (∃ a3 : Nat, P1 (a2 + 1) v2.toNatClampNeg = some a3 ∧ xS0[a3]? = some (6, 0) ∧ Q (I1 a3 2) I1 J1 P1)))) ∧ (¬ v2 < 5 → Q (-1) I1 J1 P1)))))))) : G_DS_values l V Q 0 [(0, xq (some 0)), (1, xi v1), (2, xi v2)] [] I J P := by
  refine xG_aload_n d_DS_values_0 rfl rfl rfl ?_
  refine xG_getq d_DS_values_1 xf_DS_47 rfl s0_0 ?_
  refine xG_iload_n d_DS_values_4 rfl rfl ?_
  obtain ⟨Q1, hM, h⟩ := h
  refine xG_callv (as := [xi v1]) (rest := []) d_DS_values_5 yv_TR_entryAt w4_9 rfl (lp_0_8 hL) rfl s0_21 (by decide) rfl hM ⟨by decide, by decide⟩ (Nat.le_of_ble_eq_true rfl) ⟨Nat.zero_le _, Nat.zero_le _⟩ (fun r S1 I1 J1 P1 hp => ?_)
  obtain ⟨rfl, hL1, z1, rfl, hq⟩ := hp
  have h := h z1 I1 J1 P1 hq
  refine xG_astore_n (lv' := [(3, xq z1), (0, xq (some 0)), (1, xi v1), (2, xi v2)]) d_DS_values_8 rfl (Nat.le_of_ble_eq_true rfl) rfl rfl ?_
  refine xG_aload_n d_DS_values_9 rfl rfl rfl ?_
  refine xG_ifnull (tgt := 22) d_DS_values_10 (by decide) (fun c => ?_) (fun c => ?_)
  · have h := h.1 c
    refine xG_iconst (v := (-1)) d_DS_values_22 rfl ?_
    exact xG_ireturn d_DS_values_23 rfl rfl ⟨rfl, hL1, _, rfl, h⟩
  · have h := h.2 c
    refine xG_iload_n d_DS_values_13 rfl rfl ?_
    refine xG_if_lt (tgt := 22) d_DS_values_14 (by decide) (fun c => ?_) (fun c => ?_)
    · have h := h.1 c
      refine xG_iconst (v := (-1)) d_DS_values_22 rfl ?_
      exact xG_ireturn d_DS_values_23 rfl rfl ⟨rfl, hL1, _, rfl, h⟩
    · have h := h.2 c
      refine xG_iload_n d_DS_values_17 rfl rfl ?_
      refine xG_iconst (v := 5) d_DS_values_18 rfl ?_
      refine xG_icmp_lt (tgt := 24) d_DS_values_19 (by decide) (fun c => ?_) (fun c => ?_)
      · have h := h.1 c
        refine xG_aload_n d_DS_values_24 rfl rfl rfl ?_
        obtain ⟨a2, e2, s2, h⟩ := h
        refine xG_getq d_DS_values_25 xf_DS_117 e2 s2 ?_
        refine xG_iload_n d_DS_values_28 rfl rfl ?_
        refine xG_aald (t := 0) d_DS_values_29 (lo_5_0 hL1 s2) (so_5_0 s2) rfl h.1 ?_
        have h := h.2
        obtain ⟨a3, e3, s3, h⟩ := h
        refine xG_geti d_DS_values_30 xf_DS_121 e3 s3 ?_
        exact xG_ireturn d_DS_values_33 rfl rfl ⟨rfl, hL1, _, rfl, h⟩
      · have h := h.2 c
        refine xG_iconst (v := (-1)) d_DS_values_22 rfl ?_
        exact xG_ireturn d_DS_values_23 rfl rfl ⟨rfl, hL1, _, rfl, h⟩
theorem e_DS_values {l : Launch} {V : xV} {Q : Int32 → xIt → xJt → xPt → Prop} {I : xIt} {J : xJt} {P : xPt} {v1 : Int32} {v2 : Int32} (h : G_DS_values l V Q 0 [(0, xq (some 0)), (1, xi v1), (2, xi v2)] [] I J P) : xMet l V y_DS_values 2 0 0 [xq (some 0), xi v1, xi v2] xS0 I J P (xPi Q) := xMet_of (by decide) (Nat.le_of_ble_eq_true rfl) h

abbrev G_DS_value (l : Launch) (V : xV) (Q : Int32 → xIt → xJt → xPt → Prop) (pc : Nat) (lv : List (Nat × xX)) (st : List xX) (I : xIt) (J : xJt) (P : xPt) : Prop := xG l V y_DS_value (xR 2 0 0) (xFn V y_DS_value (xR 2 0 0) (xPi Q)) pc lv st xS0 I J P (0, 0)
set_option maxRecDepth 20000 in
theorem b_DS_value_0 {l : Launch} {V : xV} {Q : Int32 → xIt → xJt → xPt → Prop} {I : xIt} {J : xJt} {P : xPt} (hL : xL P) {v1 : Int32} {v2 : Int32} {v3 : Int32} {v4 : Int32} (h : (∃ Q1 : Option Nat → xIt → xJt → xPt → Prop, xMet l V y_TR_entryAt 1 0 0 [xq (some 21), xi v1] xS0 I J P (xPq Q1) ∧ ∀ (z1 : Option Nat) (I1 : xIt) (J1 : xJt) (P1 : xPt), Q1 z1 I1 J1 P1 → ((z1 = none → Q (-1) I1 J1 P1) ∧ (¬ z1 = none → ((v2 < 0 → Q (-1) I1 J1 P1) ∧ (¬ v2 < 0 → ((v2 < 5 → (∃ a2 : Nat, z1 = some a2 ∧ xS0[a2]? = some (5, 0) ∧ (vp_in v2 5 ∧ ((v3 < 0 → Q (-1) I1 J1 P1) ∧ (¬ v3 < 0 → (∃ a3 : Nat, P1 (a2 + 1) v2.toNatClampNeg = some a3 ∧ xS0[a3]? = some (6, 0) ∧ (((I1 a3 2) ≤ v3 → Q (-1) I1 J1 P1) ∧ (¬ (I1 a3 2) ≤ v3 → ((v4 < 0 → Q (-1) I1 J1 P1) ∧ (¬ v4 < 0 → (vp_in v3 (xLn (a3 + 1)) ∧ (∃ Q4 : Int32 → xIt → xJt → xPt → Prop, xMet l V y_PK_sizeOf 1 0 0 [xj (J1 (a3 + 1) v3.toNatClampNeg)] xS0 I1 J1 P1 (xPi Q4) ∧ ∀ (z4 : Int32) (I4 : xIt) (J4 : xJt) (P4 : xPt), Q4 z4 I4 J4 P4 → ((v4 < z4 → (vp_in v3 (xLn (a3 + 1)) ∧ (∃ Q5 : Int32 → xIt → xJt → xPt → Prop, xMet l V y_PK_byteAt 1 0 0 [xj (J4 (a3 + 1) v3.toNatClampNeg), xi v4] xS0 I4 J4 P4 (xPi Q5) ∧ ∀ (z5 : Int32) (I5 : xIt) (J5 : xJt) (P5 : xPt), Q5 z5 I5 J5 P5 → Q z5 I5 J5 P5))) ∧ (¬ v4 < z4 → Q (-1) I4 J4 P4)))))))))))))) ∧ (¬ v2 < 5 → Q (-1) I1 J1 P1)))))))) : G_DS_value l V Q 0 [(0, xq (some 0)), (1, xi v1), (2, xi v2), (3, xi v3), (4, xi v4)] [] I J P := by
  refine xG_aload_n d_DS_value_0 rfl rfl rfl ?_
  refine xG_getq d_DS_value_1 xf_DS_47 rfl s0_0 ?_
  refine xG_iload_n d_DS_value_4 rfl rfl ?_
  obtain ⟨Q1, hM, h⟩ := h
  refine xG_callv (as := [xi v1]) (rest := []) d_DS_value_5 yv_TR_entryAt w4_9 rfl (lp_0_8 hL) rfl s0_21 (by decide) rfl hM ⟨by decide, by decide⟩ (Nat.le_of_ble_eq_true rfl) ⟨Nat.zero_le _, Nat.zero_le _⟩ (fun r S1 I1 J1 P1 hp => ?_)
  obtain ⟨rfl, hL1, z1, rfl, hq⟩ := hp
  have h := h z1 I1 J1 P1 hq
  refine xG_astore (lv' := [(5, xq z1), (0, xq (some 0)), (1, xi v1), (2, xi v2), (3, xi v3), (4, xi v4)]) d_DS_value_8 (Nat.le_of_ble_eq_true rfl) rfl rfl ?_
  refine xG_aload d_DS_value_10 rfl rfl ?_
  refine xG_ifnull (tgt := 24) d_DS_value_12 (by decide) (fun c => ?_) (fun c => ?_)
  · have h := h.1 c
    refine xG_iconst (v := (-1)) d_DS_value_24 rfl ?_
    exact xG_ireturn d_DS_value_25 rfl rfl ⟨rfl, hL1, _, rfl, h⟩
  · have h := h.2 c
    refine xG_iload_n d_DS_value_15 rfl rfl ?_
    refine xG_if_lt (tgt := 24) d_DS_value_16 (by decide) (fun c => ?_) (fun c => ?_)
    · have h := h.1 c
      refine xG_iconst (v := (-1)) d_DS_value_24 rfl ?_
      exact xG_ireturn d_DS_value_25 rfl rfl ⟨rfl, hL1, _, rfl, h⟩
    · have h := h.2 c
      refine xG_iload_n d_DS_value_19 rfl rfl ?_
      refine xG_iconst (v := 5) d_DS_value_20 rfl ?_
      refine xG_icmp_lt (tgt := 26) d_DS_value_21 (by decide) (fun c => ?_) (fun c => ?_)
      · have h := h.1 c
        refine xG_aload d_DS_value_26 rfl rfl ?_
        obtain ⟨a2, e2, s2, h⟩ := h
        refine xG_getq d_DS_value_28 xf_DS_117 e2 s2 ?_
        refine xG_iload_n d_DS_value_31 rfl rfl ?_
        refine xG_aald (t := 0) d_DS_value_32 (lo_5_0 hL1 s2) (so_5_0 s2) rfl h.1 ?_
        have h := h.2
        refine xG_astore (lv' := [(6, xq (P1 (a2 + 1) v2.toNatClampNeg)), (5, xq z1), (0, xq (some 0)), (1, xi v1), (2, xi v2), (3, xi v3), (4, xi v4)]) d_DS_value_33 (Nat.le_of_ble_eq_true rfl) rfl rfl ?_
        refine xG_iload_n d_DS_value_35 rfl rfl ?_
        refine xG_if_lt (tgt := 68) d_DS_value_36 (by decide) (fun c => ?_) (fun c => ?_)
        · have h := h.1 c
          refine xG_iconst (v := (-1)) d_DS_value_68 rfl ?_
          exact xG_ireturn d_DS_value_69 rfl rfl ⟨rfl, hL1, _, rfl, h⟩
        · have h := h.2 c
          refine xG_iload_n d_DS_value_39 rfl rfl ?_
          refine xG_aload d_DS_value_40 rfl rfl ?_
          obtain ⟨a3, e3, s3, h⟩ := h
          refine xG_geti d_DS_value_42 xf_DS_121 e3 s3 ?_
          refine xG_icmp_ge (tgt := 68) d_DS_value_45 (by decide) (fun c => ?_) (fun c => ?_)
          · have h := h.1 c
            refine xG_iconst (v := (-1)) d_DS_value_68 rfl ?_
            exact xG_ireturn d_DS_value_69 rfl rfl ⟨rfl, hL1, _, rfl, h⟩
          · have h := h.2 c
            refine xG_iload d_DS_value_48 rfl ?_
            refine xG_if_lt (tgt := 68) d_DS_value_50 (by decide) (fun c => ?_) (fun c => ?_)
            · have h := h.1 c
              refine xG_iconst (v := (-1)) d_DS_value_68 rfl ?_
              exact xG_ireturn d_DS_value_69 rfl rfl ⟨rfl, hL1, _, rfl, h⟩
            · have h := h.2 c
              refine xG_iload d_DS_value_53 rfl ?_
              refine xG_aload d_DS_value_55 rfl rfl ?_
              refine xG_getq d_DS_value_57 xf_DS_124 e3 s3 ?_
              refine xG_iload_n d_DS_value_60 rfl rfl ?_
              refine xG_lald d_DS_value_61 (lo_6_0 hL1 s3) (so_6_0 s3) h.1 ?_
              have h := h.2
              obtain ⟨Q4, hM, h⟩ := h
              refine xG_calls (as := [xj (J1 (a3 + 1) v3.toNatClampNeg)]) (rest := [xi v4]) d_DS_value_62 ys_PK_sizeOf w4_21 rfl rfl hM ⟨by decide, by decide⟩ (Nat.le_of_ble_eq_true rfl) ⟨Nat.zero_le _, Nat.zero_le _⟩ (fun r S4 I4 J4 P4 hp => ?_)
              obtain ⟨rfl, hL4, z4, rfl, hq⟩ := hp
              have h := h z4 I4 J4 P4 hq
              refine xG_icmp_lt (tgt := 70) d_DS_value_65 (by decide) (fun c => ?_) (fun c => ?_)
              · have h := h.1 c
                refine xG_aload d_DS_value_70 rfl rfl ?_
                refine xG_getq d_DS_value_72 xf_DS_124 e3 s3 ?_
                refine xG_iload_n d_DS_value_75 rfl rfl ?_
                refine xG_lald d_DS_value_76 (lo_6_0 hL4 s3) (so_6_0 s3) h.1 ?_
                have h := h.2
                refine xG_iload d_DS_value_77 rfl ?_
                obtain ⟨Q5, hM, h⟩ := h
                refine xG_calls (as := [xj (J4 (a3 + 1) v3.toNatClampNeg), xi v4]) (rest := []) d_DS_value_79 ys_PK_byteAt w4_22 rfl rfl hM ⟨by decide, by decide⟩ (Nat.le_of_ble_eq_true rfl) ⟨Nat.zero_le _, Nat.zero_le _⟩ (fun r S5 I5 J5 P5 hp => ?_)
                obtain ⟨rfl, hL5, z5, rfl, hq⟩ := hp
                have h := h z5 I5 J5 P5 hq
                exact xG_ireturn d_DS_value_82 rfl rfl ⟨rfl, hL5, _, rfl, h⟩
              · have h := h.2 c
                refine xG_iconst (v := (-1)) d_DS_value_68 rfl ?_
                exact xG_ireturn d_DS_value_69 rfl rfl ⟨rfl, hL4, _, rfl, h⟩
      · have h := h.2 c
        refine xG_iconst (v := (-1)) d_DS_value_24 rfl ?_
        exact xG_ireturn d_DS_value_25 rfl rfl ⟨rfl, hL1, _, rfl, h⟩
theorem e_DS_value {l : Launch} {V : xV} {Q : Int32 → xIt → xJt → xPt → Prop} {I : xIt} {J : xJt} {P : xPt} {v1 : Int32} {v2 : Int32} {v3 : Int32} {v4 : Int32} (h : G_DS_value l V Q 0 [(0, xq (some 0)), (1, xi v1), (2, xi v2), (3, xi v3), (4, xi v4)] [] I J P) : xMet l V y_DS_value 2 0 0 [xq (some 0), xi v1, xi v2, xi v3, xi v4] xS0 I J P (xPi Q) := xMet_of (by decide) (Nat.le_of_ble_eq_true rfl) h

abbrev G_DS_bytesToJudge (l : Launch) (V : xV) (Q : Int32 → xIt → xJt → xPt → Prop) (pc : Nat) (lv : List (Nat × xX)) (st : List xX) (I : xIt) (J : xJt) (P : xPt) : Prop := xG l V y_DS_bytesToJudge (xR 1 0 0) (xFn V y_DS_bytesToJudge (xR 1 0 0) (xPi Q)) pc lv st xS0 I J P (0, 0)
set_option maxRecDepth 20000 in
theorem b_DS_bytesToJudge_0 {l : Launch} {V : xV} {Q : Int32 → xIt → xJt → xPt → Prop} {I : xIt} {J : xJt} {P : xPt} (hL : xL P)  (h : (((I 2 0) = 48 → ((2 ≤ (I 0 0) → ((128 ≤ (I 2 1) → (((I 2 1) = 129 → (((I 0 0) < 3 → Q 3 I J P) ∧ (¬ (I 0 0) < 3 → (((I 2 2) ≤ 150 → Q (3 + (I 2 2)) I J P) ∧ (¬ (I 2 2) ≤ 150 → Q 3 I J P))))) ∧ (¬ (I 2 1) = 129 → Q 2 I J P))) ∧ (¬ 128 ≤ (I 2 1) → Q (2 + (I 2 1)) I J P))) ∧ (¬ 2 ≤ (I 0 0) → Q 2 I J P))) ∧ (¬ (I 2 0) = 48 → Q 1 I J P))) : G_DS_bytesToJudge l V Q 0 [(0, xq (some 0))] [] I J P := by
  refine xG_aload_n d_DS_bytesToJudge_0 rfl rfl rfl ?_
  refine xG_getq d_DS_bytesToJudge_1 xf_DS_30 rfl s0_0 ?_
  refine xG_getq d_DS_bytesToJudge_4 xf_DS_65 (lp_0_5 hL) s0_1 ?_
  refine xG_iconst (v := 0) d_DS_bytesToJudge_7 rfl ?_
  refine xG_iald d_DS_bytesToJudge_8 (lp_1_0 hL) s0_2 (x_vp (by decide)) ?_
  refine xG_topi (x' := I 2 0) (by first | rfl | exact xu_at | simp [xu]) ?_
  refine xG_bipush (v := 48) d_DS_bytesToJudge_9 rfl ?_
  refine xG_icmp_eq (tgt := 16) d_DS_bytesToJudge_11 (by decide) (fun c => ?_) (fun c => ?_)
  · have h := h.1 c
    refine xG_aload_n d_DS_bytesToJudge_16 rfl rfl rfl ?_
    refine xG_geti d_DS_bytesToJudge_17 xf_DS_9 rfl s0_0 ?_
    refine xG_iconst (v := 2) d_DS_bytesToJudge_20 rfl ?_
    refine xG_icmp_ge (tgt := 26) d_DS_bytesToJudge_21 (by decide) (fun c => ?_) (fun c => ?_)
    · have h := h.1 c
      refine xG_aload_n d_DS_bytesToJudge_26 rfl rfl rfl ?_
      refine xG_getq d_DS_bytesToJudge_27 xf_DS_30 rfl s0_0 ?_
      refine xG_getq d_DS_bytesToJudge_30 xf_DS_65 (lp_0_5 hL) s0_1 ?_
      refine xG_iconst (v := 1) d_DS_bytesToJudge_33 rfl ?_
      refine xG_iald d_DS_bytesToJudge_34 (lp_1_0 hL) s0_2 (x_vp (by decide)) ?_
      refine xG_topi (x' := I 2 1) (by first | rfl | exact xu_at | simp [xu]) ?_
      refine xG_istore_n (lv' := [(1, xi (I 2 1)), (0, xq (some 0))]) d_DS_bytesToJudge_35 rfl (Nat.le_of_ble_eq_true rfl) rfl ?_
      refine xG_iload_n d_DS_bytesToJudge_36 rfl rfl ?_
      refine xG_sipush (v := 128) d_DS_bytesToJudge_37 rfl ?_
      refine xG_icmp_ge (tgt := 47) d_DS_bytesToJudge_40 (by decide) (fun c => ?_) (fun c => ?_)
      · have h := h.1 c
        refine xG_iload_n d_DS_bytesToJudge_47 rfl rfl ?_
        refine xG_sipush (v := 129) d_DS_bytesToJudge_48 rfl ?_
        refine xG_icmp_eq (tgt := 56) d_DS_bytesToJudge_51 (by decide) (fun c => ?_) (fun c => ?_)
        · have h := h.1 c
          refine xG_aload_n d_DS_bytesToJudge_56 rfl rfl rfl ?_
          refine xG_geti d_DS_bytesToJudge_57 xf_DS_9 rfl s0_0 ?_
          refine xG_iconst (v := 3) d_DS_bytesToJudge_60 rfl ?_
          refine xG_icmp_lt (tgt := 79) d_DS_bytesToJudge_61 (by decide) (fun c => ?_) (fun c => ?_)
          · have h := h.1 c
            refine xG_iconst (v := 3) d_DS_bytesToJudge_79 rfl ?_
            exact xG_ireturn d_DS_bytesToJudge_80 rfl rfl ⟨rfl, hL, _, rfl, h⟩
          · have h := h.2 c
            refine xG_aload_n d_DS_bytesToJudge_64 rfl rfl rfl ?_
            refine xG_getq d_DS_bytesToJudge_65 xf_DS_30 rfl s0_0 ?_
            refine xG_getq d_DS_bytesToJudge_68 xf_DS_65 (lp_0_5 hL) s0_1 ?_
            refine xG_iconst (v := 2) d_DS_bytesToJudge_71 rfl ?_
            refine xG_iald d_DS_bytesToJudge_72 (lp_1_0 hL) s0_2 (x_vp (by decide)) ?_
            refine xG_topi (x' := I 2 2) (by first | rfl | exact xu_at | simp [xu]) ?_
            refine xG_sipush (v := 150) d_DS_bytesToJudge_73 rfl ?_
            refine xG_icmp_le (tgt := 81) d_DS_bytesToJudge_76 (by decide) (fun c => ?_) (fun c => ?_)
            · have h := h.1 c
              refine xG_iconst (v := 3) d_DS_bytesToJudge_81 rfl ?_
              refine xG_aload_n d_DS_bytesToJudge_82 rfl rfl rfl ?_
              refine xG_getq d_DS_bytesToJudge_83 xf_DS_30 rfl s0_0 ?_
              refine xG_getq d_DS_bytesToJudge_86 xf_DS_65 (lp_0_5 hL) s0_1 ?_
              refine xG_iconst (v := 2) d_DS_bytesToJudge_89 rfl ?_
              refine xG_iald d_DS_bytesToJudge_90 (lp_1_0 hL) s0_2 (x_vp (by decide)) ?_
              refine xG_topi (x' := I 2 2) (by first | rfl | exact xu_at | simp [xu]) ?_
              refine xG_iadd d_DS_bytesToJudge_91 ?_
              exact xG_ireturn d_DS_bytesToJudge_92 rfl rfl ⟨rfl, hL, _, rfl, h⟩
            · have h := h.2 c
              refine xG_iconst (v := 3) d_DS_bytesToJudge_79 rfl ?_
              exact xG_ireturn d_DS_bytesToJudge_80 rfl rfl ⟨rfl, hL, _, rfl, h⟩
        · have h := h.2 c
          refine xG_iconst (v := 2) d_DS_bytesToJudge_54 rfl ?_
          exact xG_ireturn d_DS_bytesToJudge_55 rfl rfl ⟨rfl, hL, _, rfl, h⟩
      · have h := h.2 c
        refine xG_iconst (v := 2) d_DS_bytesToJudge_43 rfl ?_
        refine xG_iload_n d_DS_bytesToJudge_44 rfl rfl ?_
        refine xG_iadd d_DS_bytesToJudge_45 ?_
        exact xG_ireturn d_DS_bytesToJudge_46 rfl rfl ⟨rfl, hL, _, rfl, h⟩
    · have h := h.2 c
      refine xG_iconst (v := 2) d_DS_bytesToJudge_24 rfl ?_
      exact xG_ireturn d_DS_bytesToJudge_25 rfl rfl ⟨rfl, hL, _, rfl, h⟩
  · have h := h.2 c
    refine xG_iconst (v := 1) d_DS_bytesToJudge_14 rfl ?_
    exact xG_ireturn d_DS_bytesToJudge_15 rfl rfl ⟨rfl, hL, _, rfl, h⟩
theorem e_DS_bytesToJudge {l : Launch} {V : xV} {Q : Int32 → xIt → xJt → xPt → Prop} {I : xIt} {J : xJt} {P : xPt}  (h : G_DS_bytesToJudge l V Q 0 [(0, xq (some 0))] [] I J P) : xMet l V y_DS_bytesToJudge 1 0 0 [xq (some 0)] xS0 I J P (xPi Q) := xMet_of (by decide) (Nat.le_of_ble_eq_true rfl) h

abbrev G_DS_endMessage (l : Launch) (V : xV) (Q : xIt → xJt → xPt → Prop) (pc : Nat) (lv : List (Nat × xX)) (st : List xX) (I : xIt) (J : xJt) (P : xPt) : Prop := xG l V y_DS_endMessage (xR 3 0 0) (xFn V y_DS_endMessage (xR 3 0 0) (xPv Q)) pc lv st xS0 I J P (0, 0)
set_option maxRecDepth 20000 in
theorem b_DS_endMessage_0 {l : Launch} {V : xV} {Q : xIt → xJt → xPt → Prop} {I : xIt} {J : xJt} {P : xPt} (hL : xL P) {v1 : Int32} (h : (∃ Q1 : xIt → xJt → xPt → Prop, xMet l V y_AN_clear 1 0 0 [xq (some 248)] xS0 (xu I 0 0 0) J P (xPv Q1) ∧ ∀ (I1 : xIt) (J1 : xJt) (P1 : xPt), Q1 I1 J1 P1 → ((¬ v1 = 0 → G_DS_endMessage l V Q 23 [(0, xq (some 0)), (1, xi v1)] [] I1 J1 P1) ∧ (v1 = 0 → (∃ Q2 : xIt → xJt → xPt → Prop, xMet l V y_AN_writeNotice 2 0 0 [xq (some 248)] xS0 I1 J1 P1 (xPv Q2) ∧ ∀ (I2 : xIt) (J2 : xJt) (P2 : xPt), Q2 I2 J2 P2 → G_DS_endMessage l V Q 23 [(0, xq (some 0)), (1, xi v1)] [] I2 J2 P2))))) : G_DS_endMessage l V Q 0 [(0, xq (some 0)), (1, xi v1)] [] I J P := by
  refine xG_aload_n d_DS_endMessage_0 rfl rfl rfl ?_
  refine xG_iconst (v := 0) d_DS_endMessage_1 rfl ?_
  refine xG_puti d_DS_endMessage_2 xf_DS_9 (Or.inl rfl) rfl s0_0 rfl rfl ?_
  refine xG_aload_n d_DS_endMessage_5 rfl rfl rfl ?_
  refine xG_getq d_DS_endMessage_6 xf_DS_61 rfl s0_0 ?_
  obtain ⟨Q1, hM, h⟩ := h
  refine xG_callv (as := []) (rest := []) d_DS_endMessage_9 yv_AN_clear w2_115 rfl (lp_0_10 hL) rfl s0_248 (by decide) rfl hM ⟨by decide, by decide⟩ (Nat.le_of_ble_eq_true rfl) ⟨Nat.zero_le _, Nat.zero_le _⟩ (fun r S1 I1 J1 P1 hp => ?_)
  obtain ⟨rfl, hL1, rfl, hq⟩ := hp
  have h := h I1 J1 P1 hq
  refine xG_iload_n d_DS_endMessage_12 rfl rfl ?_
  refine xG_if_ne (tgt := 23) d_DS_endMessage_13 (by decide) (fun c => ?_) (fun c => ?_)
  · have h := h.1 c
    exact h
  · have h := h.2 c
    refine xG_aload_n d_DS_endMessage_16 rfl rfl rfl ?_
    refine xG_getq d_DS_endMessage_17 xf_DS_61 rfl s0_0 ?_
    obtain ⟨Q2, hM, h⟩ := h
    refine xG_callv (as := []) (rest := []) d_DS_endMessage_20 yv_AN_writeNotice w2_119 rfl (lp_0_10 hL1) rfl s0_248 (by decide) rfl hM ⟨by decide, by decide⟩ (Nat.le_of_ble_eq_true rfl) ⟨Nat.zero_le _, Nat.zero_le _⟩ (fun r S2 I2 J2 P2 hp => ?_)
    obtain ⟨rfl, hL2, rfl, hq⟩ := hp
    have h := h I2 J2 P2 hq
    exact h
set_option maxRecDepth 20000 in
theorem b_DS_endMessage_23 {l : Launch} {V : xV} {Q : xIt → xJt → xPt → Prop} {I : xIt} {J : xJt} {P : xPt} (hL : xL P) {v1 : Int32} (h : ((v1 = 0 → Q (xu I 0 1 0) J P) ∧ (¬ v1 = 0 → (((I 1 3) = 66 → Q (xu I 0 1 0) J P) ∧ (¬ (I 1 3) = 66 → Q (xu I 0 1 1) J P))))) : G_DS_endMessage l V Q 23 [(0, xq (some 0)), (1, xi v1)] [] I J P := by
  refine xG_aload_n d_DS_endMessage_23 rfl rfl rfl ?_
  refine xG_iload_n d_DS_endMessage_24 rfl rfl ?_
  refine xG_if_eq (tgt := 44) d_DS_endMessage_25 (by decide) (fun c => ?_) (fun c => ?_)
  · have h := h.1 c
    refine xG_iconst (v := 0) d_DS_endMessage_44 rfl ?_
    refine xG_puti d_DS_endMessage_45 xf_DS_13 (Or.inl rfl) rfl s0_0 rfl rfl ?_
    exact xG_return d_DS_endMessage_48 rfl ⟨rfl, hL, rfl, h⟩
  · have h := h.2 c
    refine xG_aload_n d_DS_endMessage_28 rfl rfl rfl ?_
    refine xG_getq d_DS_endMessage_29 xf_DS_30 rfl s0_0 ?_
    refine xG_geti d_DS_endMessage_32 xf_DS_87 (lp_0_5 hL) s0_1 ?_
    refine xG_bipush (v := 66) d_DS_endMessage_35 rfl ?_
    refine xG_icmp_eq (tgt := 44) d_DS_endMessage_37 (by decide) (fun c => ?_) (fun c => ?_)
    · have h := h.1 c
      refine xG_iconst (v := 0) d_DS_endMessage_44 rfl ?_
      refine xG_puti d_DS_endMessage_45 xf_DS_13 (Or.inl rfl) rfl s0_0 rfl rfl ?_
      exact xG_return d_DS_endMessage_48 rfl ⟨rfl, hL, rfl, h⟩
    · have h := h.2 c
      refine xG_iconst (v := 1) d_DS_endMessage_40 rfl ?_
      refine xG_goto (tgt := 45) d_DS_endMessage_41 (by decide) ?_
      refine xG_puti d_DS_endMessage_45 xf_DS_13 (Or.inl rfl) rfl s0_0 rfl rfl ?_
      exact xG_return d_DS_endMessage_48 rfl ⟨rfl, hL, rfl, h⟩
theorem e_DS_endMessage {l : Launch} {V : xV} {Q : xIt → xJt → xPt → Prop} {I : xIt} {J : xJt} {P : xPt} {v1 : Int32} (h : G_DS_endMessage l V Q 0 [(0, xq (some 0)), (1, xi v1)] [] I J P) : xMet l V y_DS_endMessage 3 0 0 [xq (some 0), xi v1] xS0 I J P (xPv Q) := xMet_of (by decide) (Nat.le_of_ble_eq_true rfl) h

abbrev G_DS_perform (l : Launch) (V : xV) (Q : Int32 → xIt → xJt → xPt → Prop) (pc : Nat) (lv : List (Nat × xX)) (st : List xX) (I : xIt) (J : xJt) (P : xPt) : Prop := xG l V y_DS_perform (xR 7 0 0) (xFn V y_DS_perform (xR 7 0 0) (xPi Q)) pc lv st xS0 I J P (0, 0)
set_option maxRecDepth 20000 in
theorem b_DS_perform_0 {l : Launch} {V : xV} {Q : Int32 → xIt → xJt → xPt → Prop} {I : xIt} {J : xJt} {P : xPt} (hL : xL P)  (h : (∃ Q1 : Int32 → xIt → xJt → xPt → Prop, xMet l V y_NM_read 5 0 0 [xq (some 13), xq (P 0 5), xi 0] xS0 I J P (xPi Q1) ∧ ∀ (z1 : Int32) (I1 : xIt) (J1 : xJt) (P1 : xPt), Q1 z1 I1 J1 P1 → (∃ Q2 : Option Nat → xIt → xJt → xPt → Prop, xMet l V y_TR_find 3 0 0 [xq (some 21), xq (P1 0 6), xi 0] xS0 I1 J1 P1 (xPq Q2) ∧ ∀ (z2 : Option Nat) (I2 : xIt) (J2 : xJt) (P2 : xPt), Q2 z2 I2 J2 P2 → ((¬ (I2 1 3) = 96 → ((¬ (I2 1 3) = 99 → ((¬ z1 = 0 → ((¬ (I2 1 3) = 104 → ((¬ (I2 1 3) = 108 → ((¬ z2 = none → ((¬ (I2 1 3) = 102 → ((¬ (I2 1 3) = 74 → (∃ Q3 : Int32 → xIt → xJt → xPt → Prop, xMet l V y_DS_compare 4 0 0 [xq (some 0), xq z2] xS0 I2 J2 P2 (xPi Q3) ∧ ∀ (z3 : Int32) (I3 : xIt) (J3 : xJt) (P3 : xPt), Q3 z3 I3 J3 P3 → Q z3 I3 J3 P3)) ∧ ((I2 1 3) = 74 → (∃ Q4 : Int32 → xIt → xJt → xPt → Prop, xMet l V y_DS_delete 4 0 0 [xq (some 0), xq z2] xS0 I2 J2 P2 (xPi Q4) ∧ ∀ (z4 : Int32) (I4 : xIt) (J4 : xJt) (P4 : xPt), Q4 z4 I4 J4 P4 → Q z4 I4 J4 P4)))) ∧ ((I2 1 3) = 102 → (∃ Q5 : Int32 → xIt → xJt → xPt → Prop, xMet l V y_ED_modify 5 0 0 [xq (some 227), xq (P2 0 5), xq z2] xS0 I2 J2 P2 (xPi Q5) ∧ ∀ (z5 : Int32) (I5 : xIt) (J5 : xJt) (P5 : xPt), Q5 z5 I5 J5 P5 → Q z5 I5 J5 P5)))) ∧ (z2 = none → Q 32 I2 J2 P2))) ∧ ((I2 1 3) = 108 → (∃ Q6 : Int32 → xIt → xJt → xPt → Prop, xMet l V y_NM_read 5 0 0 [xq (some 17), xq (P2 0 5), xi 1] xS0 I2 J2 P2 (xPi Q6) ∧ ∀ (z6 : Int32) (I6 : xIt) (J6 : xJt) (P6 : xPt), Q6 z6 I6 J6 P6 → ((z6 = 0 → G_DS_perform l V Q 145 [(0, xq (some 0)), (1, xi z1), (2, xq z2)] [xi 0] I6 J6 P6) ∧ (¬ z6 = 0 → ((¬ (I6 17 3) = 1 → G_DS_perform l V Q 145 [(0, xq (some 0)), (1, xi z1), (2, xq z2)] [xi 0] I6 J6 P6) ∧ ((I6 17 3) = 1 → G_DS_perform l V Q 145 [(0, xq (some 0)), (1, xi z1), (2, xq z2)] [xi 1] I6 J6 P6)))))))) ∧ ((I2 1 3) = 104 → (∃ Q7 : Int32 → xIt → xJt → xPt → Prop, xMet l V y_ED_add 6 0 0 [xq (some 227), xq (P2 0 5), xq (P2 0 6), xq (P2 0 8)] xS0 I2 J2 P2 (xPi Q7) ∧ ∀ (z7 : Int32) (I7 : xIt) (J7 : xJt) (P7 : xPt), Q7 z7 I7 J7 P7 → Q z7 I7 J7 P7)))) ∧ (z1 = 0 → Q 34 I2 J2 P2))) ∧ ((I2 1 3) = 99 → (∃ Q8 : Int32 → xIt → xJt → xPt → Prop, xMet l V y_DS_search 5 0 0 [xq (some 0), xi z1, xq z2] xS0 I2 J2 P2 (xPi Q8) ∧ ∀ (z8 : Int32) (I8 : xIt) (J8 : xJt) (P8 : xPt), Q8 z8 I8 J8 P8 → Q z8 I8 J8 P8)))) ∧ ((I2 1 3) = 96 → (∃ Q9 : Int32 → xIt → xJt → xPt → Prop, xMet l V y_DS_bind 4 0 0 [xq (some 0), xq z2] xS0 I2 J2 P2 (xPi Q9) ∧ ∀ (z9 : Int32) (I9 : xIt) (J9 : xJt) (P9 : xPt), Q9 z9 I9 J9 P9 → Q z9 I9 J9 P9)))))) : G_DS_perform l V Q 0 [(0, xq (some 0))] [] I J P := by
  refine xG_aload_n d_DS_perform_0 rfl rfl rfl ?_
  refine xG_getq d_DS_perform_1 xf_DS_37 rfl s0_0 ?_
  refine xG_aload_n d_DS_perform_4 rfl rfl rfl ?_
  refine xG_getq d_DS_perform_5 xf_DS_30 rfl s0_0 ?_
  refine xG_iconst (v := 0) d_DS_perform_8 rfl ?_
  obtain ⟨Q1, hM, h⟩ := h
  refine xG_callv (as := [xq (P 0 5), xi 0]) (rest := []) d_DS_perform_9 yv_NM_read w2_133 rfl (lp_0_6 hL) rfl s0_13 (by decide) rfl hM ⟨by decide, by decide⟩ (Nat.le_of_ble_eq_true rfl) ⟨Nat.zero_le _, Nat.zero_le _⟩ (fun r S1 I1 J1 P1 hp => ?_)
  obtain ⟨rfl, hL1, z1, rfl, hq⟩ := hp
  have h := h z1 I1 J1 P1 hq
  refine xG_istore_n (lv' := [(1, xi z1), (0, xq (some 0))]) d_DS_perform_12 rfl (Nat.le_of_ble_eq_true rfl) rfl ?_
  refine xG_aload_n d_DS_perform_13 rfl rfl rfl ?_
  refine xG_getq d_DS_perform_14 xf_DS_47 rfl s0_0 ?_
  refine xG_aload_n d_DS_perform_17 rfl rfl rfl ?_
  refine xG_getq d_DS_perform_18 xf_DS_37 rfl s0_0 ?_
  refine xG_iconst (v := 0) d_DS_perform_21 rfl ?_
  obtain ⟨Q2, hM, h⟩ := h
  refine xG_callv (as := [xq (P1 0 6), xi 0]) (rest := []) d_DS_perform_22 yv_TR_find w2_178 rfl (lp_0_8 hL1) rfl s0_21 (by decide) rfl hM ⟨by decide, by decide⟩ (Nat.le_of_ble_eq_true rfl) ⟨Nat.zero_le _, Nat.zero_le _⟩ (fun r S2 I2 J2 P2 hp => ?_)
  obtain ⟨rfl, hL2, z2, rfl, hq⟩ := hp
  have h := h z2 I2 J2 P2 hq
  refine xG_astore_n (lv' := [(2, xq z2), (1, xi z1), (0, xq (some 0))]) d_DS_perform_25 rfl (Nat.le_of_ble_eq_true rfl) rfl rfl ?_
  refine xG_aload_n d_DS_perform_26 rfl rfl rfl ?_
  refine xG_getq d_DS_perform_27 xf_DS_30 rfl s0_0 ?_
  refine xG_geti d_DS_perform_30 xf_DS_87 (lp_0_5 hL2) s0_1 ?_
  refine xG_bipush (v := 96) d_DS_perform_33 rfl ?_
  refine xG_icmp_ne (tgt := 44) d_DS_perform_35 (by decide) (fun c => ?_) (fun c => ?_)
  · have h := h.1 c
    refine xG_aload_n d_DS_perform_44 rfl rfl rfl ?_
    refine xG_getq d_DS_perform_45 xf_DS_30 rfl s0_0 ?_
    refine xG_geti d_DS_perform_48 xf_DS_87 (lp_0_5 hL2) s0_1 ?_
    refine xG_bipush (v := 99) d_DS_perform_51 rfl ?_
    refine xG_icmp_ne (tgt := 63) d_DS_perform_53 (by decide) (fun c => ?_) (fun c => ?_)
    · have h := h.1 c
      refine xG_iload_n d_DS_perform_63 rfl rfl ?_
      refine xG_if_ne (tgt := 70) d_DS_perform_64 (by decide) (fun c => ?_) (fun c => ?_)
      · have h := h.1 c
        refine xG_aload_n d_DS_perform_70 rfl rfl rfl ?_
        refine xG_getq d_DS_perform_71 xf_DS_30 rfl s0_0 ?_
        refine xG_geti d_DS_perform_74 xf_DS_87 (lp_0_5 hL2) s0_1 ?_
        refine xG_bipush (v := 104) d_DS_perform_77 rfl ?_
        refine xG_icmp_ne (tgt := 102) d_DS_perform_79 (by decide) (fun c => ?_) (fun c => ?_)
        · have h := h.1 c
          refine xG_aload_n d_DS_perform_102 rfl rfl rfl ?_
          refine xG_getq d_DS_perform_103 xf_DS_30 rfl s0_0 ?_
          refine xG_geti d_DS_perform_106 xf_DS_87 (lp_0_5 hL2) s0_1 ?_
          refine xG_bipush (v := 108) d_DS_perform_109 rfl ?_
          refine xG_icmp_ne (tgt := 179) d_DS_perform_111 (by decide) (fun c => ?_) (fun c => ?_)
          · have h := h.1 c
            refine xG_aload_n d_DS_perform_179 rfl rfl rfl ?_
            refine xG_ifnonnull (tgt := 186) d_DS_perform_180 (by decide) (fun c => ?_) (fun c => ?_)
            · have h := h.1 c
              refine xG_aload_n d_DS_perform_186 rfl rfl rfl ?_
              refine xG_getq d_DS_perform_187 xf_DS_30 rfl s0_0 ?_
              refine xG_geti d_DS_perform_190 xf_DS_87 (lp_0_5 hL2) s0_1 ?_
              refine xG_bipush (v := 102) d_DS_perform_193 rfl ?_
              refine xG_icmp_ne (tgt := 211) d_DS_perform_195 (by decide) (fun c => ?_) (fun c => ?_)
              · have h := h.1 c
                refine xG_aload_n d_DS_perform_211 rfl rfl rfl ?_
                refine xG_getq d_DS_perform_212 xf_DS_30 rfl s0_0 ?_
                refine xG_geti d_DS_perform_215 xf_DS_87 (lp_0_5 hL2) s0_1 ?_
                refine xG_bipush (v := 74) d_DS_perform_218 rfl ?_
                refine xG_icmp_ne (tgt := 231) d_DS_perform_220 (by decide) (fun c => ?_) (fun c => ?_)
                · have h := h.1 c
                  refine xG_aload_n d_DS_perform_231 rfl rfl rfl ?_
                  refine xG_aload_n d_DS_perform_232 rfl rfl rfl ?_
                  obtain ⟨Q3, hM, h⟩ := h
                  refine xG_callv (as := [xq z2]) (rest := []) d_DS_perform_233 yv_DS_compare w3_190 rfl rfl rfl s0_0 (by decide) rfl hM ⟨by decide, by decide⟩ (Nat.le_of_ble_eq_true rfl) ⟨Nat.zero_le _, Nat.zero_le _⟩ (fun r S3 I3 J3 P3 hp => ?_)
                  obtain ⟨rfl, hL3, z3, rfl, hq⟩ := hp
                  have h := h z3 I3 J3 P3 hq
                  exact xG_ireturn d_DS_perform_236 rfl rfl ⟨rfl, hL3, _, rfl, h⟩
                · have h := h.2 c
                  refine xG_aload_n d_DS_perform_223 rfl rfl rfl ?_
                  refine xG_aload_n d_DS_perform_224 rfl rfl rfl ?_
                  obtain ⟨Q4, hM, h⟩ := h
                  refine xG_callv (as := [xq z2]) (rest := []) d_DS_perform_225 yv_DS_delete w3_173 rfl rfl rfl s0_0 (by decide) rfl hM ⟨by decide, by decide⟩ (Nat.le_of_ble_eq_true rfl) ⟨Nat.zero_le _, Nat.zero_le _⟩ (fun r S4 I4 J4 P4 hp => ?_)
                  obtain ⟨rfl, hL4, z4, rfl, hq⟩ := hp
                  have h := h z4 I4 J4 P4 hq
                  refine xG_goto (tgt := 236) d_DS_perform_228 (by decide) ?_
                  exact xG_ireturn d_DS_perform_236 rfl rfl ⟨rfl, hL4, _, rfl, h⟩
              · have h := h.2 c
                refine xG_aload_n d_DS_perform_198 rfl rfl rfl ?_
                refine xG_getq d_DS_perform_199 xf_DS_54 rfl s0_0 ?_
                refine xG_aload_n d_DS_perform_202 rfl rfl rfl ?_
                refine xG_getq d_DS_perform_203 xf_DS_30 rfl s0_0 ?_
                refine xG_aload_n d_DS_perform_206 rfl rfl rfl ?_
                obtain ⟨Q5, hM, h⟩ := h
                refine xG_callv (as := [xq (P2 0 5), xq z2]) (rest := []) d_DS_perform_207 yv_ED_modify w3_136 rfl (lp_0_9 hL2) rfl s0_227 (by decide) rfl hM ⟨by decide, by decide⟩ (Nat.le_of_ble_eq_true rfl) ⟨Nat.zero_le _, Nat.zero_le _⟩ (fun r S5 I5 J5 P5 hp => ?_)
                obtain ⟨rfl, hL5, z5, rfl, hq⟩ := hp
                have h := h z5 I5 J5 P5 hq
                exact xG_ireturn d_DS_perform_210 rfl rfl ⟨rfl, hL5, _, rfl, h⟩
            · have h := h.2 c
              refine xG_bipush (v := 32) d_DS_perform_183 rfl ?_
              exact xG_ireturn d_DS_perform_185 rfl rfl ⟨rfl, hL2, _, rfl, h⟩
          · have h := h.2 c
            refine xG_aload_n d_DS_perform_114 rfl rfl rfl ?_
            refine xG_getq d_DS_perform_115 xf_DS_41 rfl s0_0 ?_
            refine xG_aload_n d_DS_perform_118 rfl rfl rfl ?_
            refine xG_getq d_DS_perform_119 xf_DS_30 rfl s0_0 ?_
            refine xG_iconst (v := 1) d_DS_perform_122 rfl ?_
            obtain ⟨Q6, hM, h⟩ := h
            refine xG_callv (as := [xq (P2 0 5), xi 1]) (rest := []) d_DS_perform_123 yv_NM_read w2_133 rfl (lp_0_7 hL2) rfl s0_17 (by decide) rfl hM ⟨by decide, by decide⟩ (Nat.le_of_ble_eq_true rfl) ⟨Nat.zero_le _, Nat.zero_le _⟩ (fun r S6 I6 J6 P6 hp => ?_)
            obtain ⟨rfl, hL6, z6, rfl, hq⟩ := hp
            have h := h z6 I6 J6 P6 hq
            refine xG_if_eq (tgt := 144) d_DS_perform_126 (by decide) (fun c => ?_) (fun c => ?_)
            · have h := h.1 c
              refine xG_iconst (v := 0) d_DS_perform_144 rfl ?_
              refine xG_pick [2, 1, 0] rfl ?_
              exact h
            · have h := h.2 c
              refine xG_aload_n d_DS_perform_129 rfl rfl rfl ?_
              refine xG_getq d_DS_perform_130 xf_DS_41 rfl s0_0 ?_
              refine xG_geti d_DS_perform_133 xf_DS_163 (lp_0_7 hL6) s0_17 ?_
              refine xG_iconst (v := 1) d_DS_perform_136 rfl ?_
              refine xG_icmp_ne (tgt := 144) d_DS_perform_137 (by decide) (fun c => ?_) (fun c => ?_)
              · have h := h.1 c
                refine xG_iconst (v := 0) d_DS_perform_144 rfl ?_
                refine xG_pick [2, 1, 0] rfl ?_
                exact h
              · have h := h.2 c
                refine xG_iconst (v := 1) d_DS_perform_140 rfl ?_
                refine xG_goto (tgt := 145) d_DS_perform_141 (by decide) ?_
                refine xG_pick [2, 1, 0] rfl ?_
                exact h
        · have h := h.2 c
          refine xG_aload_n d_DS_perform_82 rfl rfl rfl ?_
          refine xG_getq d_DS_perform_83 xf_DS_54 rfl s0_0 ?_
          refine xG_aload_n d_DS_perform_86 rfl rfl rfl ?_
          refine xG_getq d_DS_perform_87 xf_DS_30 rfl s0_0 ?_
          refine xG_aload_n d_DS_perform_90 rfl rfl rfl ?_
          refine xG_getq d_DS_perform_91 xf_DS_37 rfl s0_0 ?_
          refine xG_aload_n d_DS_perform_94 rfl rfl rfl ?_
          refine xG_getq d_DS_perform_95 xf_DS_47 rfl s0_0 ?_
          obtain ⟨Q7, hM, h⟩ := h
          refine xG_callv (as := [xq (P2 0 5), xq (P2 0 6), xq (P2 0 8)]) (rest := []) d_DS_perform_98 yv_ED_add w3_57 rfl (lp_0_9 hL2) rfl s0_227 (by decide) rfl hM ⟨by decide, by decide⟩ (Nat.le_of_ble_eq_true rfl) ⟨Nat.zero_le _, Nat.zero_le _⟩ (fun r S7 I7 J7 P7 hp => ?_)
          obtain ⟨rfl, hL7, z7, rfl, hq⟩ := hp
          have h := h z7 I7 J7 P7 hq
          exact xG_ireturn d_DS_perform_101 rfl rfl ⟨rfl, hL7, _, rfl, h⟩
      · have h := h.2 c
        refine xG_bipush (v := 34) d_DS_perform_67 rfl ?_
        exact xG_ireturn d_DS_perform_69 rfl rfl ⟨rfl, hL2, _, rfl, h⟩
    · have h := h.2 c
      refine xG_aload_n d_DS_perform_56 rfl rfl rfl ?_
      refine xG_iload_n d_DS_perform_57 rfl rfl ?_
      refine xG_aload_n d_DS_perform_58 rfl rfl rfl ?_
      obtain ⟨Q8, hM, h⟩ := h
      refine xG_callv (as := [xi z1, xq z2]) (rest := []) d_DS_perform_59 yv_DS_search w2_211 rfl rfl rfl s0_0 (by decide) rfl hM ⟨by decide, by decide⟩ (Nat.le_of_ble_eq_true rfl) ⟨Nat.zero_le _, Nat.zero_le _⟩ (fun r S8 I8 J8 P8 hp => ?_)
      obtain ⟨rfl, hL8, z8, rfl, hq⟩ := hp
      have h := h z8 I8 J8 P8 hq
      exact xG_ireturn d_DS_perform_62 rfl rfl ⟨rfl, hL8, _, rfl, h⟩
  · have h := h.2 c
    refine xG_aload_n d_DS_perform_38 rfl rfl rfl ?_
    refine xG_aload_n d_DS_perform_39 rfl rfl rfl ?_
    obtain ⟨Q9, hM, h⟩ := h
    refine xG_callv (as := [xq z2]) (rest := []) d_DS_perform_40 yv_DS_bind w2_190 rfl rfl rfl s0_0 (by decide) rfl hM ⟨by decide, by decide⟩ (Nat.le_of_ble_eq_true rfl) ⟨Nat.zero_le _, Nat.zero_le _⟩ (fun r S9 I9 J9 P9 hp => ?_)
    obtain ⟨rfl, hL9, z9, rfl, hq⟩ := hp
    have h := h z9 I9 J9 P9 hq
    exact xG_ireturn d_DS_perform_43 rfl rfl ⟨rfl, hL9, _, rfl, h⟩
set_option maxRecDepth 20000 in
theorem b_DS_perform_145 {l : Launch} {V : xV} {Q : Int32 → xIt → xJt → xPt → Prop} {I : xIt} {J : xJt} {P : xPt} (hL : xL P) {v1 : Int32} {v2 : Option Nat} {u0 : Int32} (h : ((u0 = 0 → Q 34 I J P) ∧ (¬ u0 = 0 → (∃ Q1 : Int32 → xIt → xJt → xPt → Prop, xMet l V y_ED_rename 4 0 0 [xq (some 227), xq v2, xq (P 0 7), xi (I 1 6), xq (P 0 8)] xS0 I J P (xPi Q1) ∧ ∀ (z1 : Int32) (I1 : xIt) (J1 : xJt) (P1 : xPt), Q1 z1 I1 J1 P1 → Q z1 I1 J1 P1)))) : G_DS_perform l V Q 145 [(0, xq (some 0)), (1, xi v1), (2, xq v2)] [xi u0] I J P := by
  refine xG_istore_n (lv' := [(3, xi u0), (0, xq (some 0)), (1, xi v1), (2, xq v2)]) d_DS_perform_145 rfl (Nat.le_of_ble_eq_true rfl) rfl ?_
  refine xG_iload_n d_DS_perform_146 rfl rfl ?_
  refine xG_if_eq (tgt := 176) d_DS_perform_147 (by decide) (fun c => ?_) (fun c => ?_)
  · have h := h.1 c
    refine xG_bipush (v := 34) d_DS_perform_176 rfl ?_
    exact xG_ireturn d_DS_perform_178 rfl rfl ⟨rfl, hL, _, rfl, h⟩
  · have h := h.2 c
    refine xG_aload_n d_DS_perform_150 rfl rfl rfl ?_
    refine xG_getq d_DS_perform_151 xf_DS_54 rfl s0_0 ?_
    refine xG_aload_n d_DS_perform_154 rfl rfl rfl ?_
    refine xG_aload_n d_DS_perform_155 rfl rfl rfl ?_
    refine xG_getq d_DS_perform_156 xf_DS_41 rfl s0_0 ?_
    refine xG_aload_n d_DS_perform_159 rfl rfl rfl ?_
    refine xG_getq d_DS_perform_160 xf_DS_30 rfl s0_0 ?_
    refine xG_geti d_DS_perform_163 xf_DS_166 (lp_0_5 hL) s0_1 ?_
    refine xG_aload_n d_DS_perform_166 rfl rfl rfl ?_
    refine xG_getq d_DS_perform_167 xf_DS_47 rfl s0_0 ?_
    obtain ⟨Q1, hM, h⟩ := h
    refine xG_callv (as := [xq v2, xq (P 0 7), xi (I 1 6), xq (P 0 8)]) (rest := []) d_DS_perform_170 yv_ED_rename w3_125 rfl (lp_0_9 hL) rfl s0_227 (by decide) rfl hM ⟨by decide, by decide⟩ (Nat.le_of_ble_eq_true rfl) ⟨Nat.zero_le _, Nat.zero_le _⟩ (fun r S1 I1 J1 P1 hp => ?_)
    obtain ⟨rfl, hL1, z1, rfl, hq⟩ := hp
    have h := h z1 I1 J1 P1 hq
    refine xG_goto (tgt := 178) d_DS_perform_173 (by decide) ?_
    exact xG_ireturn d_DS_perform_178 rfl rfl ⟨rfl, hL1, _, rfl, h⟩
theorem e_DS_perform {l : Launch} {V : xV} {Q : Int32 → xIt → xJt → xPt → Prop} {I : xIt} {J : xJt} {P : xPt}  (h : G_DS_perform l V Q 0 [(0, xq (some 0))] [] I J P) : xMet l V y_DS_perform 7 0 0 [xq (some 0)] xS0 I J P (xPi Q) := xMet_of (by decide) (Nat.le_of_ble_eq_true rfl) h

abbrev G_DS_bind (l : Launch) (V : xV) (Q : Int32 → xIt → xJt → xPt → Prop) (pc : Nat) (lv : List (Nat × xX)) (st : List xX) (I : xIt) (J : xJt) (P : xPt) : Prop := xG l V y_DS_bind (xR 4 0 0) (xFn V y_DS_bind (xR 4 0 0) (xPi Q)) pc lv st xS0 I J P (0, 0)
set_option maxRecDepth 20000 in
theorem b_DS_bind_0 {l : Launch} {V : xV} {Q : Int32 → xIt → xJt → xPt → Prop} {I : xIt} {J : xJt} {P : xPt} (hL : xL P) {v1 : Option Nat} (h : (((I 1 4) = 3 → (xL (xu P 0 2 none) ∧ (∃ a2 : Nat, P 0 5 = some a2 ∧ xS0[a2]? = some (1, 0) ∧ (∃ Q3 : Int32 → xIt → xJt → xPt → Prop, xMet l V y_RQ_isEmpty 1 0 0 [xq (some a2), xi 0] xS0 I J (xu P 0 2 none) (xPi Q3) ∧ ∀ (z3 : Int32) (I3 : xIt) (J3 : xJt) (P3 : xPt), Q3 z3 I3 J3 P3 → ((z3 = 0 → G_DS_bind l V Q 42 [(0, xq (some 0)), (1, xq v1)] [] I3 J3 P3) ∧ (¬ z3 = 0 → (∃ Q4 : Int32 → xIt → xJt → xPt → Prop, xMet l V y_RQ_isEmpty 1 0 0 [xq (some 1), xi 1] xS0 I3 J3 P3 (xPi Q4) ∧ ∀ (z4 : Int32) (I4 : xIt) (J4 : xJt) (P4 : xPt), Q4 z4 I4 J4 P4 → ((z4 = 0 → G_DS_bind l V Q 42 [(0, xq (some 0)), (1, xq v1)] [] I4 J4 P4) ∧ (¬ z4 = 0 → Q 0 I4 J4 P4))))))))) ∧ (¬ (I 1 4) = 3 → Q 2 I J P))) : G_DS_bind l V Q 0 [(0, xq (some 0)), (1, xq v1)] [] I J P := by
  refine xG_aload_n d_DS_bind_0 rfl rfl rfl ?_
  refine xG_getq d_DS_bind_1 xf_DS_30 rfl s0_0 ?_
  refine xG_geti d_DS_bind_4 xf_DS_183 (lp_0_5 hL) s0_1 ?_
  refine xG_iconst (v := 3) d_DS_bind_7 rfl ?_
  refine xG_icmp_eq (tgt := 13) d_DS_bind_8 (by decide) (fun c => ?_) (fun c => ?_)
  · have h := h.1 c
    refine xG_aload_n d_DS_bind_13 rfl rfl rfl ?_
    refine xG_null d_DS_bind_14 ?_
    refine xG_putq d_DS_bind_15 xf_DS_17 (Or.inl rfl) rfl s0_0 ?_
    have hL1 := h.1
    have h := h.2
    refine xG_aload_n d_DS_bind_18 rfl rfl rfl ?_
    refine xG_getq d_DS_bind_19 xf_DS_30 rfl s0_0 ?_
    refine xG_topq (x' := P 0 5) (by first | rfl | exact xu_at | simp [xu]) ?_
    refine xG_iconst (v := 0) d_DS_bind_22 rfl ?_
    obtain ⟨a2, e2, s2, h⟩ := h
    obtain ⟨Q3, hM, h⟩ := h
    refine xG_callv (as := [xi 0]) (rest := []) d_DS_bind_23 yv_RQ_isEmpty w2_194 rfl e2 rfl s2 (by decide) rfl hM ⟨by decide, by decide⟩ (Nat.le_of_ble_eq_true rfl) ⟨Nat.zero_le _, Nat.zero_le _⟩ (fun r S3 I3 J3 P3 hp => ?_)
    obtain ⟨rfl, hL3, z3, rfl, hq⟩ := hp
    have h := h z3 I3 J3 P3 hq
    refine xG_if_eq (tgt := 42) d_DS_bind_26 (by decide) (fun c => ?_) (fun c => ?_)
    · have h := h.1 c
      exact h
    · have h := h.2 c
      refine xG_aload_n d_DS_bind_29 rfl rfl rfl ?_
      refine xG_getq d_DS_bind_30 xf_DS_30 rfl s0_0 ?_
      refine xG_iconst (v := 1) d_DS_bind_33 rfl ?_
      obtain ⟨Q4, hM, h⟩ := h
      refine xG_callv (as := [xi 1]) (rest := []) d_DS_bind_34 yv_RQ_isEmpty w2_194 rfl (lp_0_5 hL3) rfl s0_1 (by decide) rfl hM ⟨by decide, by decide⟩ (Nat.le_of_ble_eq_true rfl) ⟨Nat.zero_le _, Nat.zero_le _⟩ (fun r S4 I4 J4 P4 hp => ?_)
      obtain ⟨rfl, hL4, z4, rfl, hq⟩ := hp
      have h := h z4 I4 J4 P4 hq
      refine xG_if_eq (tgt := 42) d_DS_bind_37 (by decide) (fun c => ?_) (fun c => ?_)
      · have h := h.1 c
        exact h
      · have h := h.2 c
        refine xG_iconst (v := 0) d_DS_bind_40 rfl ?_
        exact xG_ireturn d_DS_bind_41 rfl rfl ⟨rfl, hL4, _, rfl, h⟩
  · have h := h.2 c
    refine xG_iconst (v := 2) d_DS_bind_11 rfl ?_
    exact xG_ireturn d_DS_bind_12 rfl rfl ⟨rfl, hL, _, rfl, h⟩
set_option maxRecDepth 20000 in
theorem b_DS_bind_42 {l : Launch} {V : xV} {Q : Int32 → xIt → xJt → xPt → Prop} {I : xIt} {J : xJt} {P : xPt} (hL : xL P) {v1 : Option Nat} (h : ((v1 = none → Q 49 I J P) ∧ (¬ v1 = none → (∃ a1 : Nat, v1 = some a1 ∧ xS0[a1]? = some (5, 0) ∧ (∃ Q2 : Int64 → xIt → xJt → xPt → Prop, xMet l V y_RQ_packed 3 0 0 [xq (some 1), xi 1] xS0 I J P (xPl Q2) ∧ ∀ (z2 : Int64) (I2 : xIt) (J2 : xJt) (P2 : xPt), Q2 z2 I2 J2 P2 → (∃ a3 : Nat, P (a1 + 1) 4 = some a3 ∧ xS0[a3]? = some (6, 0) ∧ (∃ Q4 : Int32 → xIt → xJt → xPt → Prop, xMet l V y_VR_has 1 0 0 [xq (some a3), xj z2] xS0 I2 J2 P2 (xPi Q4) ∧ ∀ (z4 : Int32) (I4 : xIt) (J4 : xJt) (P4 : xPt), Q4 z4 I4 J4 P4 → ((¬ z4 = 0 → (xL (xu P4 0 2 v1) ∧ Q 0 I4 J4 (xu P4 0 2 v1))) ∧ (z4 = 0 → Q 49 I4 J4 P4))))))))) : G_DS_bind l V Q 42 [(0, xq (some 0)), (1, xq v1)] [] I J P := by
  refine xG_aload_n d_DS_bind_42 rfl rfl rfl ?_
  refine xG_ifnull (tgt := 66) d_DS_bind_43 (by decide) (fun c => ?_) (fun c => ?_)
  · have h := h.1 c
    refine xG_bipush (v := 49) d_DS_bind_66 rfl ?_
    exact xG_ireturn d_DS_bind_68 rfl rfl ⟨rfl, hL, _, rfl, h⟩
  · have h := h.2 c
    refine xG_aload_n d_DS_bind_46 rfl rfl rfl ?_
    obtain ⟨a1, e1, s1, h⟩ := h
    refine xG_getq d_DS_bind_47 xf_DS_117 e1 s1 ?_
    refine xG_iconst (v := 4) d_DS_bind_50 rfl ?_
    refine xG_aald (t := 0) d_DS_bind_51 (lo_5_0 hL s1) (so_5_0 s1) rfl (x_vp (by decide)) ?_
    refine xG_topq (x' := P (a1 + 1) 4) (by first | rfl | exact xu_at | simp [xu]) ?_
    refine xG_aload_n d_DS_bind_52 rfl rfl rfl ?_
    refine xG_getq d_DS_bind_53 xf_DS_30 rfl s0_0 ?_
    refine xG_iconst (v := 1) d_DS_bind_56 rfl ?_
    obtain ⟨Q2, hM, h⟩ := h
    refine xG_callv (as := [xi 1]) (rest := [xq (P (a1 + 1) 4)]) d_DS_bind_57 yv_RQ_packed w2_198 rfl (lp_0_5 hL) rfl s0_1 (by decide) rfl hM ⟨by decide, by decide⟩ (Nat.le_of_ble_eq_true rfl) ⟨Nat.zero_le _, Nat.zero_le _⟩ (fun r S2 I2 J2 P2 hp => ?_)
    obtain ⟨rfl, hL2, z2, rfl, hq⟩ := hp
    have h := h z2 I2 J2 P2 hq
    obtain ⟨a3, e3, s3, h⟩ := h
    obtain ⟨Q4, hM, h⟩ := h
    refine xG_callv (as := [xj z2]) (rest := []) d_DS_bind_60 yv_VR_has w2_207 rfl e3 rfl s3 (by decide) rfl hM ⟨by decide, by decide⟩ (Nat.le_of_ble_eq_true rfl) ⟨Nat.zero_le _, Nat.zero_le _⟩ (fun r S4 I4 J4 P4 hp => ?_)
    obtain ⟨rfl, hL4, z4, rfl, hq⟩ := hp
    have h := h z4 I4 J4 P4 hq
    refine xG_if_ne (tgt := 69) d_DS_bind_63 (by decide) (fun c => ?_) (fun c => ?_)
    · have h := h.1 c
      refine xG_aload_n d_DS_bind_69 rfl rfl rfl ?_
      refine xG_aload_n d_DS_bind_70 rfl rfl rfl ?_
      refine xG_putq d_DS_bind_71 xf_DS_17 (Or.inl rfl) rfl s0_0 ?_
      have hL5 := h.1
      have h := h.2
      refine xG_iconst (v := 0) d_DS_bind_74 rfl ?_
      exact xG_ireturn d_DS_bind_75 rfl rfl ⟨rfl, hL5, _, rfl, h⟩
    · have h := h.2 c
      refine xG_bipush (v := 49) d_DS_bind_66 rfl ?_
      exact xG_ireturn d_DS_bind_68 rfl rfl ⟨rfl, hL4, _, rfl, h⟩
theorem e_DS_bind {l : Launch} {V : xV} {Q : Int32 → xIt → xJt → xPt → Prop} {I : xIt} {J : xJt} {P : xPt} {v1 : Option Nat} (h : G_DS_bind l V Q 0 [(0, xq (some 0)), (1, xq v1)] [] I J P) : xMet l V y_DS_bind 4 0 0 [xq (some 0), xq v1] xS0 I J P (xPi Q) := xMet_of (by decide) (Nat.le_of_ble_eq_true rfl) h

abbrev G_DS_delete (l : Launch) (V : xV) (Q : Int32 → xIt → xJt → xPt → Prop) (pc : Nat) (lv : List (Nat × xX)) (st : List xX) (I : xIt) (J : xJt) (P : xPt) : Prop := xG l V y_DS_delete (xR 4 0 0) (xFn V y_DS_delete (xR 4 0 0) (xPi Q)) pc lv st xS0 I J P (0, 0)
set_option maxRecDepth 20000 in
theorem b_DS_delete_0 {l : Launch} {V : xV} {Q : Int32 → xIt → xJt → xPt → Prop} {I : xIt} {J : xJt} {P : xPt} (hL : xL P) {v1 : Option Nat} (h : (∃ Q1 : Int32 → xIt → xJt → xPt → Prop, xMet l V y_TR_hasBelow 1 0 0 [xq (some 21), xq v1] xS0 I J P (xPi Q1) ∧ ∀ (z1 : Int32) (I1 : xIt) (J1 : xJt) (P1 : xPt), Q1 z1 I1 J1 P1 → ((z1 = 0 → ((¬ P1 0 2 = v1 → (∃ Q2 : xIt → xJt → xPt → Prop, xMet l V y_TR_remove 3 0 0 [xq (some 21), xq v1] xS0 I1 J1 P1 (xPv Q2) ∧ ∀ (I2 : xIt) (J2 : xJt) (P2 : xPt), Q2 I2 J2 P2 → Q 0 I2 J2 P2)) ∧ (P1 0 2 = v1 → (xL (xu P1 0 2 none) ∧ (∃ a4 : Nat, P1 0 8 = some a4 ∧ xS0[a4]? = some (4, 0) ∧ (∃ Q5 : xIt → xJt → xPt → Prop, xMet l V y_TR_remove 3 0 0 [xq (some a4), xq v1] xS0 I1 J1 (xu P1 0 2 none) (xPv Q5) ∧ ∀ (I5 : xIt) (J5 : xJt) (P5 : xPt), Q5 I5 J5 P5 → Q 0 I5 J5 P5)))))) ∧ (¬ z1 = 0 → Q 66 I1 J1 P1)))) : G_DS_delete l V Q 0 [(0, xq (some 0)), (1, xq v1)] [] I J P := by
  refine xG_aload_n d_DS_delete_0 rfl rfl rfl ?_
  refine xG_getq d_DS_delete_1 xf_DS_47 rfl s0_0 ?_
  refine xG_aload_n d_DS_delete_4 rfl rfl rfl ?_
  obtain ⟨Q1, hM, h⟩ := h
  refine xG_callv (as := [xq v1]) (rest := []) d_DS_delete_5 yv_TR_hasBelow w3_177 rfl (lp_0_8 hL) rfl s0_21 (by decide) rfl hM ⟨by decide, by decide⟩ (Nat.le_of_ble_eq_true rfl) ⟨Nat.zero_le _, Nat.zero_le _⟩ (fun r S1 I1 J1 P1 hp => ?_)
  obtain ⟨rfl, hL1, z1, rfl, hq⟩ := hp
  have h := h z1 I1 J1 P1 hq
  refine xG_if_eq (tgt := 14) d_DS_delete_8 (by decide) (fun c => ?_) (fun c => ?_)
  · have h := h.1 c
    refine xG_aload_n d_DS_delete_14 rfl rfl rfl ?_
    refine xG_getq d_DS_delete_15 xf_DS_17 rfl s0_0 ?_
    refine xG_aload_n d_DS_delete_18 rfl rfl rfl ?_
    refine xG_acmp_ne (tgt := 27) d_DS_delete_19 (by decide) (fun c => ?_) (fun c => ?_)
    · have h := h.1 c
      refine xG_aload_n d_DS_delete_27 rfl rfl rfl ?_
      refine xG_getq d_DS_delete_28 xf_DS_47 rfl s0_0 ?_
      refine xG_aload_n d_DS_delete_31 rfl rfl rfl ?_
      obtain ⟨Q2, hM, h⟩ := h
      refine xG_callv (as := [xq v1]) (rest := []) d_DS_delete_32 yv_TR_remove w3_181 rfl (lp_0_8 hL1) rfl s0_21 (by decide) rfl hM ⟨by decide, by decide⟩ (Nat.le_of_ble_eq_true rfl) ⟨Nat.zero_le _, Nat.zero_le _⟩ (fun r S2 I2 J2 P2 hp => ?_)
      obtain ⟨rfl, hL2, rfl, hq⟩ := hp
      have h := h I2 J2 P2 hq
      refine xG_iconst (v := 0) d_DS_delete_35 rfl ?_
      exact xG_ireturn d_DS_delete_36 rfl rfl ⟨rfl, hL2, _, rfl, h⟩
    · have h := h.2 c
      refine xG_aload_n d_DS_delete_22 rfl rfl rfl ?_
      refine xG_null d_DS_delete_23 ?_
      refine xG_putq d_DS_delete_24 xf_DS_17 (Or.inl rfl) rfl s0_0 ?_
      have hL3 := h.1
      have h := h.2
      refine xG_aload_n d_DS_delete_27 rfl rfl rfl ?_
      refine xG_getq d_DS_delete_28 xf_DS_47 rfl s0_0 ?_
      refine xG_topq (x' := P1 0 8) (by first | rfl | exact xu_at | simp [xu]) ?_
      refine xG_aload_n d_DS_delete_31 rfl rfl rfl ?_
      obtain ⟨a4, e4, s4, h⟩ := h
      obtain ⟨Q5, hM, h⟩ := h
      refine xG_callv (as := [xq v1]) (rest := []) d_DS_delete_32 yv_TR_remove w3_181 rfl e4 rfl s4 (by decide) rfl hM ⟨by decide, by decide⟩ (Nat.le_of_ble_eq_true rfl) ⟨Nat.zero_le _, Nat.zero_le _⟩ (fun r S5 I5 J5 P5 hp => ?_)
      obtain ⟨rfl, hL5, rfl, hq⟩ := hp
      have h := h I5 J5 P5 hq
      refine xG_iconst (v := 0) d_DS_delete_35 rfl ?_
      exact xG_ireturn d_DS_delete_36 rfl rfl ⟨rfl, hL5, _, rfl, h⟩
  · have h := h.2 c
    refine xG_bipush (v := 66) d_DS_delete_11 rfl ?_
    exact xG_ireturn d_DS_delete_13 rfl rfl ⟨rfl, hL1, _, rfl, h⟩
theorem e_DS_delete {l : Launch} {V : xV} {Q : Int32 → xIt → xJt → xPt → Prop} {I : xIt} {J : xJt} {P : xPt} {v1 : Option Nat} (h : G_DS_delete l V Q 0 [(0, xq (some 0)), (1, xq v1)] [] I J P) : xMet l V y_DS_delete 4 0 0 [xq (some 0), xq v1] xS0 I J P (xPi Q) := xMet_of (by decide) (Nat.le_of_ble_eq_true rfl) h

abbrev G_DS_compare (l : Launch) (V : xV) (Q : Int32 → xIt → xJt → xPt → Prop) (pc : Nat) (lv : List (Nat × xX)) (st : List xX) (I : xIt) (J : xJt) (P : xPt) : Prop := xG l V y_DS_compare (xR 4 0 0) (xFn V y_DS_compare (xR 4 0 0) (xPi Q)) pc lv st xS0 I J P (0, 0)
set_option maxRecDepth 20000 in
theorem b_DS_compare_0 {l : Launch} {V : xV} {Q : Int32 → xIt → xJt → xPt → Prop} {I : xIt} {J : xJt} {P : xPt} (hL : xL P) {v1 : Option Nat} (h : (∃ Q1 : Int32 → xIt → xJt → xPt → Prop, xMet l V y_RQ_typeOf 3 0 0 [xq (some 1), xi 1] xS0 I J P (xPi Q1) ∧ ∀ (z1 : Int32) (I1 : xIt) (J1 : xJt) (P1 : xPt), Q1 z1 I1 J1 P1 → ((¬ z1 = (-1) → (∃ Q2 : Int64 → xIt → xJt → xPt → Prop, xMet l V y_RQ_packed 3 0 0 [xq (some 1), xi 2] xS0 I1 J1 P1 (xPl Q2) ∧ ∀ (z2 : Int64) (I2 : xIt) (J2 : xJt) (P2 : xPt), Q2 z2 I2 J2 P2 → (∃ Q3 : Int64 → xIt → xJt → xPt → Prop, xMet l V y_SX_plainOf 3 0 0 [xi z1, xj z2] xS0 I2 J2 P2 (xPl Q3) ∧ ∀ (z3 : Int64) (I3 : xIt) (J3 : xJt) (P3 : xPt), Q3 z3 I3 J3 P3 → ((¬ (lg_cmp z3 (-1)) = 0 → (∃ a4 : Nat, v1 = some a4 ∧ xS0[a4]? = some (5, 0) ∧ (vp_in z1 5 ∧ (∃ a5 : Nat, P3 (a4 + 1) z1.toNatClampNeg = some a5 ∧ xS0[a5]? = some (6, 0) ∧ ((¬ (I3 a5 2) = 0 → (vp_in z1 5 ∧ (∃ a6 : Nat, P3 (a4 + 1) z1.toNatClampNeg = some a6 ∧ xS0[a6]? = some (6, 0) ∧ (∃ Q7 : Int32 → xIt → xJt → xPt → Prop, xMet l V y_VR_has 1 0 0 [xq (some a6), xj z3] xS0 I3 J3 P3 (xPi Q7) ∧ ∀ (z7 : Int32) (I7 : xIt) (J7 : xJt) (P7 : xPt), Q7 z7 I7 J7 P7 → ((z7 = 0 → Q 5 I7 J7 P7) ∧ (¬ z7 = 0 → Q 6 I7 J7 P7)))))) ∧ ((I3 a5 2) = 0 → Q 16 I3 J3 P3)))))) ∧ ((lg_cmp z3 (-1)) = 0 → Q 21 I3 J3 P3))))) ∧ (z1 = (-1) → Q 17 I1 J1 P1)))) : G_DS_compare l V Q 0 [(0, xq (some 0)), (1, xq v1)] [] I J P := by
  refine xG_aload_n d_DS_compare_0 rfl rfl rfl ?_
  refine xG_getq d_DS_compare_1 xf_DS_30 rfl s0_0 ?_
  refine xG_iconst (v := 1) d_DS_compare_4 rfl ?_
  obtain ⟨Q1, hM, h⟩ := h
  refine xG_callv (as := [xi 1]) (rest := []) d_DS_compare_5 yv_RQ_typeOf w3_194 rfl (lp_0_5 hL) rfl s0_1 (by decide) rfl hM ⟨by decide, by decide⟩ (Nat.le_of_ble_eq_true rfl) ⟨Nat.zero_le _, Nat.zero_le _⟩ (fun r S1 I1 J1 P1 hp => ?_)
  obtain ⟨rfl, hL1, z1, rfl, hq⟩ := hp
  have h := h z1 I1 J1 P1 hq
  refine xG_istore_n (lv' := [(2, xi z1), (0, xq (some 0)), (1, xq v1)]) d_DS_compare_8 rfl (Nat.le_of_ble_eq_true rfl) rfl ?_
  refine xG_iload_n d_DS_compare_9 rfl rfl ?_
  refine xG_iconst (v := (-1)) d_DS_compare_10 rfl ?_
  refine xG_icmp_ne (tgt := 17) d_DS_compare_11 (by decide) (fun c => ?_) (fun c => ?_)
  · have h := h.1 c
    refine xG_iload_n d_DS_compare_17 rfl rfl ?_
    refine xG_aload_n d_DS_compare_18 rfl rfl rfl ?_
    refine xG_getq d_DS_compare_19 xf_DS_30 rfl s0_0 ?_
    refine xG_iconst (v := 2) d_DS_compare_22 rfl ?_
    obtain ⟨Q2, hM, h⟩ := h
    refine xG_callv (as := [xi 2]) (rest := [xi z1]) d_DS_compare_23 yv_RQ_packed w2_198 rfl (lp_0_5 hL1) rfl s0_1 (by decide) rfl hM ⟨by decide, by decide⟩ (Nat.le_of_ble_eq_true rfl) ⟨Nat.zero_le _, Nat.zero_le _⟩ (fun r S2 I2 J2 P2 hp => ?_)
    obtain ⟨rfl, hL2, z2, rfl, hq⟩ := hp
    have h := h z2 I2 J2 P2 hq
    obtain ⟨Q3, hM, h⟩ := h
    refine xG_calls (as := [xi z1, xj z2]) (rest := []) d_DS_compare_26 ys_SX_plainOf w3_195 rfl rfl hM ⟨by decide, by decide⟩ (Nat.le_of_ble_eq_true rfl) ⟨Nat.zero_le _, Nat.zero_le _⟩ (fun r S3 I3 J3 P3 hp => ?_)
    obtain ⟨rfl, hL3, z3, rfl, hq⟩ := hp
    have h := h z3 I3 J3 P3 hq
    refine xG_lstore_n (lv' := [(3, xj z3), (2, xi z1), (0, xq (some 0)), (1, xq v1)]) d_DS_compare_29 rfl (Nat.le_of_ble_eq_true rfl) rfl ?_
    refine xG_lload_n d_DS_compare_30 rfl rfl ?_
    refine xG_ldc2 (v := (-1)) d_DS_compare_31 w3_196 ?_
    refine xG_lcmp d_DS_compare_34 ?_
    refine xG_if_ne (tgt := 41) d_DS_compare_35 (by decide) (fun c => ?_) (fun c => ?_)
    · have h := h.1 c
      refine xG_aload_n d_DS_compare_41 rfl rfl rfl ?_
      obtain ⟨a4, e4, s4, h⟩ := h
      refine xG_getq d_DS_compare_42 xf_DS_117 e4 s4 ?_
      refine xG_iload_n d_DS_compare_45 rfl rfl ?_
      refine xG_aald (t := 0) d_DS_compare_46 (lo_5_0 hL3 s4) (so_5_0 s4) rfl h.1 ?_
      have h := h.2
      obtain ⟨a5, e5, s5, h⟩ := h
      refine xG_geti d_DS_compare_47 xf_DS_121 e5 s5 ?_
      refine xG_if_ne (tgt := 56) d_DS_compare_50 (by decide) (fun c => ?_) (fun c => ?_)
      · have h := h.1 c
        refine xG_aload_n d_DS_compare_56 rfl rfl rfl ?_
        refine xG_getq d_DS_compare_57 xf_DS_117 e4 s4 ?_
        refine xG_iload_n d_DS_compare_60 rfl rfl ?_
        refine xG_aald (t := 0) d_DS_compare_61 (lo_5_0 hL3 s4) (so_5_0 s4) rfl h.1 ?_
        have h := h.2
        refine xG_lload_n d_DS_compare_62 rfl rfl ?_
        obtain ⟨a6, e6, s6, h⟩ := h
        obtain ⟨Q7, hM, h⟩ := h
        refine xG_callv (as := [xj z3]) (rest := []) d_DS_compare_63 yv_VR_has w2_207 rfl e6 rfl s6 (by decide) rfl hM ⟨by decide, by decide⟩ (Nat.le_of_ble_eq_true rfl) ⟨Nat.zero_le _, Nat.zero_le _⟩ (fun r S7 I7 J7 P7 hp => ?_)
        obtain ⟨rfl, hL7, z7, rfl, hq⟩ := hp
        have h := h z7 I7 J7 P7 hq
        refine xG_if_eq (tgt := 74) d_DS_compare_66 (by decide) (fun c => ?_) (fun c => ?_)
        · have h := h.1 c
          refine xG_iconst (v := 5) d_DS_compare_74 rfl ?_
          exact xG_ireturn d_DS_compare_75 rfl rfl ⟨rfl, hL7, _, rfl, h⟩
        · have h := h.2 c
          refine xG_bipush (v := 6) d_DS_compare_69 rfl ?_
          refine xG_goto (tgt := 75) d_DS_compare_71 (by decide) ?_
          exact xG_ireturn d_DS_compare_75 rfl rfl ⟨rfl, hL7, _, rfl, h⟩
      · have h := h.2 c
        refine xG_bipush (v := 16) d_DS_compare_53 rfl ?_
        exact xG_ireturn d_DS_compare_55 rfl rfl ⟨rfl, hL3, _, rfl, h⟩
    · have h := h.2 c
      refine xG_bipush (v := 21) d_DS_compare_38 rfl ?_
      exact xG_ireturn d_DS_compare_40 rfl rfl ⟨rfl, hL3, _, rfl, h⟩
  · have h := h.2 c
    refine xG_bipush (v := 17) d_DS_compare_14 rfl ?_
    exact xG_ireturn d_DS_compare_16 rfl rfl ⟨rfl, hL1, _, rfl, h⟩
theorem e_DS_compare {l : Launch} {V : xV} {Q : Int32 → xIt → xJt → xPt → Prop} {I : xIt} {J : xJt} {P : xPt} {v1 : Option Nat} (h : G_DS_compare l V Q 0 [(0, xq (some 0)), (1, xq v1)] [] I J P) : xMet l V y_DS_compare 4 0 0 [xq (some 0), xq v1] xS0 I J P (xPi Q) := xMet_of (by decide) (Nat.le_of_ble_eq_true rfl) h

abbrev G_DS_search (l : Launch) (V : xV) (Q : Int32 → xIt → xJt → xPt → Prop) (pc : Nat) (lv : List (Nat × xX)) (st : List xX) (I : xIt) (J : xJt) (P : xPt) : Prop := xG l V y_DS_search (xR 5 0 0) (xFn V y_DS_search (xR 5 0 0) (xPi Q)) pc lv st xS0 I J P (0, 0)
set_option maxRecDepth 20000 in
theorem b_DS_search_0 {l : Launch} {V : xV} {Q : Int32 → xIt → xJt → xPt → Prop} {I : xIt} {J : xJt} {P : xPt} (hL : xL P) {v1 : Int32} {v2 : Option Nat} (h : ((¬ v1 = 0 → ((¬ v2 = none → (∃ Q1 : xIt → xJt → xPt → Prop, xMet l V y_FL_readLeaves 4 0 0 [xq (some 6), xq (P 0 5)] xS0 (xu I 0 4 0) J P (xPv Q1) ∧ ∀ (I1 : xIt) (J1 : xJt) (P1 : xPt), Q1 I1 J1 P1 → G_DS_search l V Q 45 [(0, xq (some 0)), (1, xi v1), (2, xq v2), (3, xi 0)] [] I1 J1 P1)) ∧ (v2 = none → (((I 13 3) ≤ 0 → (∃ Q2 : xIt → xJt → xPt → Prop, xMet l V y_FL_readLeaves 4 0 0 [xq (some 6), xq (P 0 5)] xS0 (xu I 0 4 0) J P (xPv Q2) ∧ ∀ (I2 : xIt) (J2 : xJt) (P2 : xPt), Q2 I2 J2 P2 → G_DS_search l V Q 45 [(0, xq (some 0)), (1, xi v1), (2, xq v2), (3, xi 0)] [] I2 J2 P2)) ∧ (¬ (I 13 3) ≤ 0 → Q 32 (xu I 0 4 0) J P))))) ∧ (v1 = 0 → Q 34 (xu I 0 4 0) J P))) : G_DS_search l V Q 0 [(0, xq (some 0)), (1, xi v1), (2, xq v2)] [] I J P := by
  refine xG_aload_n d_DS_search_0 rfl rfl rfl ?_
  refine xG_iconst (v := 0) d_DS_search_1 rfl ?_
  refine xG_puti d_DS_search_2 xf_DS_24 (Or.inl rfl) rfl s0_0 rfl rfl ?_
  refine xG_iload_n d_DS_search_5 rfl rfl ?_
  refine xG_if_ne (tgt := 12) d_DS_search_6 (by decide) (fun c => ?_) (fun c => ?_)
  · have h := h.1 c
    refine xG_aload_n d_DS_search_12 rfl rfl rfl ?_
    refine xG_ifnonnull (tgt := 29) d_DS_search_13 (by decide) (fun c => ?_) (fun c => ?_)
    · have h := h.1 c
      refine xG_aload_n d_DS_search_29 rfl rfl rfl ?_
      refine xG_getq d_DS_search_30 xf_DS_30 rfl s0_0 ?_
      refine xG_getq d_DS_search_33 xf_DS_216 (lp_0_5 hL) s0_1 ?_
      refine xG_aload_n d_DS_search_36 rfl rfl rfl ?_
      refine xG_getq d_DS_search_37 xf_DS_30 rfl s0_0 ?_
      obtain ⟨Q1, hM, h⟩ := h
      refine xG_callv (as := [xq (P 0 5)]) (rest := []) d_DS_search_40 yv_FL_readLeaves w2_215 rfl (lp_1_12 hL) rfl s0_6 (by decide) rfl hM ⟨by decide, by decide⟩ (Nat.le_of_ble_eq_true rfl) ⟨Nat.zero_le _, Nat.zero_le _⟩ (fun r S1 I1 J1 P1 hp => ?_)
      obtain ⟨rfl, hL1, rfl, hq⟩ := hp
      have h := h I1 J1 P1 hq
      refine xG_iconst (v := 0) d_DS_search_43 rfl ?_
      refine xG_istore_n (lv' := [(3, xi 0), (0, xq (some 0)), (1, xi v1), (2, xq v2)]) d_DS_search_44 rfl (Nat.le_of_ble_eq_true rfl) rfl ?_
      refine xG_pick [1, 2, 3, 0] rfl ?_
      exact h
    · have h := h.2 c
      refine xG_aload_n d_DS_search_16 rfl rfl rfl ?_
      refine xG_getq d_DS_search_17 xf_DS_37 rfl s0_0 ?_
      refine xG_geti d_DS_search_20 xf_DS_163 (lp_0_6 hL) s0_13 ?_
      refine xG_topi (x' := I 13 3) (by first | rfl | exact xu_at | simp [xu]) ?_
      refine xG_if_le (tgt := 29) d_DS_search_23 (by decide) (fun c => ?_) (fun c => ?_)
      · have h := h.1 c
        refine xG_aload_n d_DS_search_29 rfl rfl rfl ?_
        refine xG_getq d_DS_search_30 xf_DS_30 rfl s0_0 ?_
        refine xG_getq d_DS_search_33 xf_DS_216 (lp_0_5 hL) s0_1 ?_
        refine xG_aload_n d_DS_search_36 rfl rfl rfl ?_
        refine xG_getq d_DS_search_37 xf_DS_30 rfl s0_0 ?_
        obtain ⟨Q2, hM, h⟩ := h
        refine xG_callv (as := [xq (P 0 5)]) (rest := []) d_DS_search_40 yv_FL_readLeaves w2_215 rfl (lp_1_12 hL) rfl s0_6 (by decide) rfl hM ⟨by decide, by decide⟩ (Nat.le_of_ble_eq_true rfl) ⟨Nat.zero_le _, Nat.zero_le _⟩ (fun r S2 I2 J2 P2 hp => ?_)
        obtain ⟨rfl, hL2, rfl, hq⟩ := hp
        have h := h I2 J2 P2 hq
        refine xG_iconst (v := 0) d_DS_search_43 rfl ?_
        refine xG_istore_n (lv' := [(3, xi 0), (0, xq (some 0)), (1, xi v1), (2, xq v2)]) d_DS_search_44 rfl (Nat.le_of_ble_eq_true rfl) rfl ?_
        refine xG_pick [1, 2, 3, 0] rfl ?_
        exact h
      · have h := h.2 c
        refine xG_bipush (v := 32) d_DS_search_26 rfl ?_
        exact xG_ireturn d_DS_search_28 rfl rfl ⟨rfl, hL, _, rfl, h⟩
  · have h := h.2 c
    refine xG_bipush (v := 34) d_DS_search_9 rfl ?_
    exact xG_ireturn d_DS_search_11 rfl rfl ⟨rfl, hL, _, rfl, h⟩
set_option maxRecDepth 20000 in
theorem b_DS_search_45 {l : Launch} {V : xV} {Q : Int32 → xIt → xJt → xPt → Prop} {I : xIt} {J : xJt} {P : xPt} (hL : xL P) {v1 : Int32} {v2 : Option Nat} {v3 : Int32} (h : (((I 21 1) ≤ v3 → Q 0 I J P) ∧ (¬ (I 21 1) ≤ v3 → (vp_in v3 12 ∧ (∃ Q1 : Int32 → xIt → xJt → xPt → Prop, xMet l V y_DS_inScope 2 0 0 [xq (some 0), xq (P 22 v3.toNatClampNeg), xq v2] xS0 I J P (xPi Q1) ∧ ∀ (z1 : Int32) (I1 : xIt) (J1 : xJt) (P1 : xPt), Q1 z1 I1 J1 P1 → ((z1 = 0 → G_DS_search l V Q 45 [(0, xq (some 0)), (1, xi v1), (2, xq v2), (3, xi (v3 + 1))] [] I1 J1 P1) ∧ (¬ z1 = 0 → (∃ Q2 : Int32 → xIt → xJt → xPt → Prop, xMet l V y_FL_truthFor 4 0 0 [xq (some 6), xq (P 22 v3.toNatClampNeg)] xS0 I1 J1 P1 (xPi Q2) ∧ ∀ (z2 : Int32) (I2 : xIt) (J2 : xJt) (P2 : xPt), Q2 z2 I2 J2 P2 → ((¬ z2 = 2 → G_DS_search l V Q 45 [(0, xq (some 0)), (1, xi v1), (2, xq v2), (3, xi (v3 + 1))] [] I2 J2 P2) ∧ (z2 = 2 → (((I2 1 4) = 0 → G_DS_search l V Q 119 [(0, xq (some 0)), (1, xi v1), (2, xq v2), (3, xi v3), (4, xq (P 22 v3.toNatClampNeg))] [] I2 J2 P2) ∧ (¬ (I2 1 4) = 0 → ((¬ (I2 0 4) = (I2 1 4) → G_DS_search l V Q 119 [(0, xq (some 0)), (1, xi v1), (2, xq v2), (3, xi v3), (4, xq (P 22 v3.toNatClampNeg))] [] I2 J2 P2) ∧ ((I2 0 4) = (I2 1 4) → Q 4 I2 J2 P2)))))))))))))) : G_DS_search l V Q 45 [(0, xq (some 0)), (1, xi v1), (2, xq v2), (3, xi v3)] [] I J P := by
  refine xG_iload_n d_DS_search_45 rfl rfl ?_
  refine xG_aload_n d_DS_search_46 rfl rfl rfl ?_
  refine xG_getq d_DS_search_47 xf_DS_47 rfl s0_0 ?_
  refine xG_geti d_DS_search_50 xf_DS_105 (lp_0_8 hL) s0_21 ?_
  refine xG_icmp_ge (tgt := 151) d_DS_search_53 (by decide) (fun c => ?_) (fun c => ?_)
  · have h := h.1 c
    refine xG_iconst (v := 0) d_DS_search_151 rfl ?_
    exact xG_ireturn d_DS_search_152 rfl rfl ⟨rfl, hL, _, rfl, h⟩
  · have h := h.2 c
    refine xG_aload_n d_DS_search_56 rfl rfl rfl ?_
    refine xG_getq d_DS_search_57 xf_DS_47 rfl s0_0 ?_
    refine xG_getq d_DS_search_60 xf_DS_226 (lp_0_8 hL) s0_21 ?_
    refine xG_iload_n d_DS_search_63 rfl rfl ?_
    refine xG_aald (t := 1) d_DS_search_64 (lp_21_0 hL) s0_22 rfl h.1 ?_
    have h := h.2
    refine xG_astore (lv' := [(4, xq (P 22 v3.toNatClampNeg)), (0, xq (some 0)), (1, xi v1), (2, xq v2), (3, xi v3)]) d_DS_search_65 (Nat.le_of_ble_eq_true rfl) rfl rfl ?_
    refine xG_aload_n d_DS_search_67 rfl rfl rfl ?_
    refine xG_aload d_DS_search_68 rfl rfl ?_
    refine xG_aload_n d_DS_search_70 rfl rfl rfl ?_
    obtain ⟨Q1, hM, h⟩ := h
    refine xG_callv (as := [xq (P 22 v3.toNatClampNeg), xq v2]) (rest := []) d_DS_search_71 yv_DS_inScope w2_230 rfl rfl rfl s0_0 (by decide) rfl hM ⟨by decide, by decide⟩ (Nat.le_of_ble_eq_true rfl) ⟨Nat.zero_le _, Nat.zero_le _⟩ (fun r S1 I1 J1 P1 hp => ?_)
    obtain ⟨rfl, hL1, z1, rfl, hq⟩ := hp
    have h := h z1 I1 J1 P1 hq
    refine xG_if_eq (tgt := 145) d_DS_search_74 (by decide) (fun c => ?_) (fun c => ?_)
    · have h := h.1 c
      refine xG_iinc (v := v3 + 1) (lv' := [(3, xi (v3 + 1)), (4, xq (P 22 v3.toNatClampNeg)), (0, xq (some 0)), (1, xi v1), (2, xq v2)]) d_DS_search_145 rfl rfl (Nat.le_of_ble_eq_true rfl) rfl ?_
      refine xG_goto (tgt := 45) d_DS_search_148 (by decide) ?_
      refine xG_pick [2, 3, 4, 0] rfl ?_
      exact h
    · have h := h.2 c
      refine xG_aload_n d_DS_search_77 rfl rfl rfl ?_
      refine xG_getq d_DS_search_78 xf_DS_30 rfl s0_0 ?_
      refine xG_getq d_DS_search_81 xf_DS_216 (lp_0_5 hL1) s0_1 ?_
      refine xG_aload d_DS_search_84 rfl rfl ?_
      obtain ⟨Q2, hM, h⟩ := h
      refine xG_callv (as := [xq (P 22 v3.toNatClampNeg)]) (rest := []) d_DS_search_86 yv_FL_truthFor w2_238 rfl (lp_1_12 hL1) rfl s0_6 (by decide) rfl hM ⟨by decide, by decide⟩ (Nat.le_of_ble_eq_true rfl) ⟨Nat.zero_le _, Nat.zero_le _⟩ (fun r S2 I2 J2 P2 hp => ?_)
      obtain ⟨rfl, hL2, z2, rfl, hq⟩ := hp
      have h := h z2 I2 J2 P2 hq
      refine xG_iconst (v := 2) d_DS_search_89 rfl ?_
      refine xG_icmp_ne (tgt := 145) d_DS_search_90 (by decide) (fun c => ?_) (fun c => ?_)
      · have h := h.1 c
        refine xG_iinc (v := v3 + 1) (lv' := [(3, xi (v3 + 1)), (4, xq (P 22 v3.toNatClampNeg)), (0, xq (some 0)), (1, xi v1), (2, xq v2)]) d_DS_search_145 rfl rfl (Nat.le_of_ble_eq_true rfl) rfl ?_
        refine xG_goto (tgt := 45) d_DS_search_148 (by decide) ?_
        refine xG_pick [2, 3, 4, 0] rfl ?_
        exact h
      · have h := h.2 c
        refine xG_aload_n d_DS_search_93 rfl rfl rfl ?_
        refine xG_getq d_DS_search_94 xf_DS_30 rfl s0_0 ?_
        refine xG_geti d_DS_search_97 xf_DS_183 (lp_0_5 hL2) s0_1 ?_
        refine xG_if_eq (tgt := 119) d_DS_search_100 (by decide) (fun c => ?_) (fun c => ?_)
        · have h := h.1 c
          refine xG_pick [1, 2, 3, 4, 0] rfl ?_
          exact h
        · have h := h.2 c
          refine xG_aload_n d_DS_search_103 rfl rfl rfl ?_
          refine xG_geti d_DS_search_104 xf_DS_24 rfl s0_0 ?_
          refine xG_aload_n d_DS_search_107 rfl rfl rfl ?_
          refine xG_getq d_DS_search_108 xf_DS_30 rfl s0_0 ?_
          refine xG_geti d_DS_search_111 xf_DS_183 (lp_0_5 hL2) s0_1 ?_
          refine xG_icmp_ne (tgt := 119) d_DS_search_114 (by decide) (fun c => ?_) (fun c => ?_)
          · have h := h.1 c
            refine xG_pick [1, 2, 3, 4, 0] rfl ?_
            exact h
          · have h := h.2 c
            refine xG_iconst (v := 4) d_DS_search_117 rfl ?_
            exact xG_ireturn d_DS_search_118 rfl rfl ⟨rfl, hL2, _, rfl, h⟩
set_option maxRecDepth 20000 in
theorem b_DS_search_119 {l : Launch} {V : xV} {Q : Int32 → xIt → xJt → xPt → Prop} {I : xIt} {J : xJt} {P : xPt} (hL : xL P) {v1 : Int32} {v2 : Option Nat} {v3 : Int32} {v4 : Option Nat} (h : (∃ Q1 : xIt → xJt → xPt → Prop, xMet l V y_AN_writeEntry 4 0 0 [xq (some 248), xi (I 1 2), xq v4] xS0 I J P (xPv Q1) ∧ ∀ (I1 : xIt) (J1 : xJt) (P1 : xPt), Q1 I1 J1 P1 → G_DS_search l V Q 45 [(0, xq (some 0)), (1, xi v1), (2, xq v2), (3, xi (v3 + 1))] [] (xu I1 0 4 ((I1 0 4) + 1)) J1 P1)) : G_DS_search l V Q 119 [(0, xq (some 0)), (1, xi v1), (2, xq v2), (3, xi v3), (4, xq v4)] [] I J P := by
  refine xG_aload_n d_DS_search_119 rfl rfl rfl ?_
  refine xG_getq d_DS_search_120 xf_DS_61 rfl s0_0 ?_
  refine xG_aload_n d_DS_search_123 rfl rfl rfl ?_
  refine xG_getq d_DS_search_124 xf_DS_30 rfl s0_0 ?_
  refine xG_geti d_DS_search_127 xf_DS_84 (lp_0_5 hL) s0_1 ?_
  refine xG_aload d_DS_search_130 rfl rfl ?_
  obtain ⟨Q1, hM, h⟩ := h
  refine xG_callv (as := [xi (I 1 2), xq v4]) (rest := []) d_DS_search_132 yv_AN_writeEntry w3_25 rfl (lp_0_10 hL) rfl s0_248 (by decide) rfl hM ⟨by decide, by decide⟩ (Nat.le_of_ble_eq_true rfl) ⟨Nat.zero_le _, Nat.zero_le _⟩ (fun r S1 I1 J1 P1 hp => ?_)
  obtain ⟨rfl, hL1, rfl, hq⟩ := hp
  have h := h I1 J1 P1 hq
  refine xG_aload_n d_DS_search_135 rfl rfl rfl ?_
  refine xG_dup d_DS_search_136 rfl ?_
  refine xG_geti d_DS_search_137 xf_DS_24 rfl s0_0 ?_
  refine xG_iconst (v := 1) d_DS_search_140 rfl ?_
  refine xG_iadd d_DS_search_141 ?_
  refine xG_puti d_DS_search_142 xf_DS_24 (Or.inl rfl) rfl s0_0 rfl rfl ?_
  refine xG_iinc (v := v3 + 1) (lv' := [(3, xi (v3 + 1)), (0, xq (some 0)), (1, xi v1), (2, xq v2), (4, xq v4)]) d_DS_search_145 rfl rfl (Nat.le_of_ble_eq_true rfl) rfl ?_
  refine xG_goto (tgt := 45) d_DS_search_148 (by decide) ?_
  refine xG_pick [1, 2, 3, 0] rfl ?_
  exact h
theorem e_DS_search {l : Launch} {V : xV} {Q : Int32 → xIt → xJt → xPt → Prop} {I : xIt} {J : xJt} {P : xPt} {v1 : Int32} {v2 : Option Nat} (h : G_DS_search l V Q 0 [(0, xq (some 0)), (1, xi v1), (2, xq v2)] [] I J P) : xMet l V y_DS_search 5 0 0 [xq (some 0), xi v1, xq v2] xS0 I J P (xPi Q) := xMet_of (by decide) (Nat.le_of_ble_eq_true rfl) h

abbrev G_DS_inScope (l : Launch) (V : xV) (Q : Int32 → xIt → xJt → xPt → Prop) (pc : Nat) (lv : List (Nat × xX)) (st : List xX) (I : xIt) (J : xJt) (P : xPt) : Prop := xG l V y_DS_inScope (xR 2 0 0) (xFn V y_DS_inScope (xR 2 0 0) (xPi Q)) pc lv st xS0 I J P (0, 0)
set_option maxRecDepth 20000 in
theorem b_DS_inScope_0 {l : Launch} {V : xV} {Q : Int32 → xIt → xJt → xPt → Prop} {I : xIt} {J : xJt} {P : xPt} (hL : xL P) {v1 : Option Nat} {v2 : Option Nat} (h : ((¬ (I 1 5) = 0 → ((¬ (I 1 5) = 1 → ((v2 = none → Q 1 I J P) ∧ (¬ v2 = none → (∃ a1 : Nat, v1 = some a1 ∧ xS0[a1]? = some (5, 0) ∧ (∃ Q2 : Int32 → xIt → xJt → xPt → Prop, xMet l V y_EN_isAtOrBelow 1 0 0 [xq (some a1), xq v2] xS0 I J P (xPi Q2) ∧ ∀ (z2 : Int32) (I2 : xIt) (J2 : xJt) (P2 : xPt), Q2 z2 I2 J2 P2 → ((z2 = 0 → Q 0 I2 J2 P2) ∧ (¬ z2 = 0 → Q 1 I2 J2 P2))))))) ∧ ((I 1 5) = 1 → (∃ a3 : Nat, v1 = some a3 ∧ xS0[a3]? = some (5, 0) ∧ ((¬ P a3 1 = v2 → Q 0 I J P) ∧ (P a3 1 = v2 → Q 1 I J P)))))) ∧ ((I 1 5) = 0 → ((¬ v1 = v2 → Q 0 I J P) ∧ (v1 = v2 → Q 1 I J P))))) : G_DS_inScope l V Q 0 [(0, xq (some 0)), (1, xq v1), (2, xq v2)] [] I J P := by
  refine xG_aload_n d_DS_inScope_0 rfl rfl rfl ?_
  refine xG_getq d_DS_inScope_1 xf_DS_30 rfl s0_0 ?_
  refine xG_geti d_DS_inScope_4 xf_DS_241 (lp_0_5 hL) s0_1 ?_
  refine xG_if_ne (tgt := 21) d_DS_inScope_7 (by decide) (fun c => ?_) (fun c => ?_)
  · have h := h.1 c
    refine xG_aload_n d_DS_inScope_21 rfl rfl rfl ?_
    refine xG_getq d_DS_inScope_22 xf_DS_30 rfl s0_0 ?_
    refine xG_geti d_DS_inScope_25 xf_DS_241 (lp_0_5 hL) s0_1 ?_
    refine xG_iconst (v := 1) d_DS_inScope_28 rfl ?_
    refine xG_icmp_ne (tgt := 46) d_DS_inScope_29 (by decide) (fun c => ?_) (fun c => ?_)
    · have h := h.1 c
      refine xG_aload_n d_DS_inScope_46 rfl rfl rfl ?_
      refine xG_ifnull (tgt := 58) d_DS_inScope_47 (by decide) (fun c => ?_) (fun c => ?_)
      · have h := h.1 c
        refine xG_iconst (v := 1) d_DS_inScope_58 rfl ?_
        refine xG_goto (tgt := 63) d_DS_inScope_59 (by decide) ?_
        exact xG_ireturn d_DS_inScope_63 rfl rfl ⟨rfl, hL, _, rfl, h⟩
      · have h := h.2 c
        refine xG_aload_n d_DS_inScope_50 rfl rfl rfl ?_
        refine xG_aload_n d_DS_inScope_51 rfl rfl rfl ?_
        obtain ⟨a1, e1, s1, h⟩ := h
        obtain ⟨Q2, hM, h⟩ := h
        refine xG_callv (as := [xq v2]) (rest := []) d_DS_inScope_52 yv_EN_isAtOrBelow w2_234 rfl e1 rfl s1 (by decide) rfl hM ⟨by decide, by decide⟩ (Nat.le_of_ble_eq_true rfl) ⟨Nat.zero_le _, Nat.zero_le _⟩ (fun r S2 I2 J2 P2 hp => ?_)
        obtain ⟨rfl, hL2, z2, rfl, hq⟩ := hp
        have h := h z2 I2 J2 P2 hq
        refine xG_if_eq (tgt := 62) d_DS_inScope_55 (by decide) (fun c => ?_) (fun c => ?_)
        · have h := h.1 c
          refine xG_iconst (v := 0) d_DS_inScope_62 rfl ?_
          exact xG_ireturn d_DS_inScope_63 rfl rfl ⟨rfl, hL2, _, rfl, h⟩
        · have h := h.2 c
          refine xG_iconst (v := 1) d_DS_inScope_58 rfl ?_
          refine xG_goto (tgt := 63) d_DS_inScope_59 (by decide) ?_
          exact xG_ireturn d_DS_inScope_63 rfl rfl ⟨rfl, hL2, _, rfl, h⟩
    · have h := h.2 c
      refine xG_aload_n d_DS_inScope_32 rfl rfl rfl ?_
      obtain ⟨a3, e3, s3, h⟩ := h
      refine xG_getq d_DS_inScope_33 xf_DS_112 e3 s3 ?_
      refine xG_aload_n d_DS_inScope_36 rfl rfl rfl ?_
      refine xG_acmp_ne (tgt := 44) d_DS_inScope_37 (by decide) (fun c => ?_) (fun c => ?_)
      · have h := h.1 c
        refine xG_iconst (v := 0) d_DS_inScope_44 rfl ?_
        exact xG_ireturn d_DS_inScope_45 rfl rfl ⟨rfl, hL, _, rfl, h⟩
      · have h := h.2 c
        refine xG_iconst (v := 1) d_DS_inScope_40 rfl ?_
        refine xG_goto (tgt := 45) d_DS_inScope_41 (by decide) ?_
        exact xG_ireturn d_DS_inScope_45 rfl rfl ⟨rfl, hL, _, rfl, h⟩
  · have h := h.2 c
    refine xG_aload_n d_DS_inScope_10 rfl rfl rfl ?_
    refine xG_aload_n d_DS_inScope_11 rfl rfl rfl ?_
    refine xG_acmp_ne (tgt := 19) d_DS_inScope_12 (by decide) (fun c => ?_) (fun c => ?_)
    · have h := h.1 c
      refine xG_iconst (v := 0) d_DS_inScope_19 rfl ?_
      exact xG_ireturn d_DS_inScope_20 rfl rfl ⟨rfl, hL, _, rfl, h⟩
    · have h := h.2 c
      refine xG_iconst (v := 1) d_DS_inScope_15 rfl ?_
      refine xG_goto (tgt := 20) d_DS_inScope_16 (by decide) ?_
      exact xG_ireturn d_DS_inScope_20 rfl rfl ⟨rfl, hL, _, rfl, h⟩
theorem e_DS_inScope {l : Launch} {V : xV} {Q : Int32 → xIt → xJt → xPt → Prop} {I : xIt} {J : xJt} {P : xPt} {v1 : Option Nat} {v2 : Option Nat} (h : G_DS_inScope l V Q 0 [(0, xq (some 0)), (1, xq v1), (2, xq v2)] [] I J P) : xMet l V y_DS_inScope 2 0 0 [xq (some 0), xq v1, xq v2] xS0 I J P (xPi Q) := xMet_of (by decide) (Nat.le_of_ble_eq_true rfl) h

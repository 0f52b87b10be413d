abbrev G_ED_add (l : Launch) (V : xV) (Q : Int32 → xIt → xJt → xPt → Prop) (pc : Nat) (lv : List (Nat × xX)) (st : List xX) (I : xIt) (J : xJt) (P : xPt) : Prop := xG l V y_ED_add (xR 6 0 0) (xFn V y_ED_add (xR 6 0 0) (xPi Q)) pc lv st xS0 I J P (0, 0)
set_option maxRecDepth 20000 in
theorem b_ED_add_0 {l : Launch} {V : xV} {Q : Int32 → xIt → xJt → xPt → Prop} {I : xIt} {J : xJt} {P : xPt} (hL : xL P) {v1 : Option Nat} {v2 : Option Nat} {v3 : Option Nat} (h : (∃ Q1 : xIt → xJt → xPt → Prop, xMet l V y_EN_clear 2 0 0 [xq (some 228)] xS0 I J P (xPv Q1) ∧ ∀ (I1 : xIt) (J1 : xJt) (P1 : xPt), Q1 I1 J1 P1 → G_ED_add l V Q 13 [(0, xq (some 227)), (1, xq v1), (2, xq v2), (3, xq v3), (4, xi 1), (5, xi 0)] [] I1 J1 P1)) : G_ED_add l V Q 0 [(0, xq (some 227)), (1, xq v1), (2, xq v2), (3, xq v3)] [] I J P := by
  refine xG_aload_n d_ED_add_0 rfl rfl rfl ?_
  refine xG_getq d_ED_add_1 xf_ED_16 rfl s0_227 ?_
  obtain ⟨Q1, hM, h⟩ := h
  refine xG_callv (as := []) (rest := []) d_ED_add_4 yv_EN_clear w3_61 rfl (lp_227_0 hL) rfl s0_228 (by decide) rfl hM ⟨by decide, by decide⟩ (Nat.le_of_ble_eq_true rfl) ⟨Nat.zero_le _, Nat.zero_le _⟩ (fun r S1 I1 J1 P1 hp => ?_)
  obtain ⟨rfl, hL1, rfl, hq⟩ := hp
  have h := h I1 J1 P1 hq
  refine xG_iconst (v := 1) d_ED_add_7 rfl ?_
  refine xG_istore (lv' := [(4, xi 1), (0, xq (some 227)), (1, xq v1), (2, xq v2), (3, xq v3)]) d_ED_add_8 (Nat.le_of_ble_eq_true rfl) rfl ?_
  refine xG_iconst (v := 0) d_ED_add_10 rfl ?_
  refine xG_istore (lv' := [(5, xi 0), (4, xi 1), (0, xq (some 227)), (1, xq v1), (2, xq v2), (3, xq v3)]) d_ED_add_11 (Nat.le_of_ble_eq_true rfl) rfl ?_
  refine xG_pick [2, 3, 4, 5, 1, 0] rfl ?_
  exact h
set_option maxRecDepth 20000 in
theorem b_ED_add_13 {l : Launch} {V : xV} {Q : Int32 → xIt → xJt → xPt → Prop} {I : xIt} {J : xJt} {P : xPt} (hL : xL P) {v1 : Option Nat} {v2 : Option Nat} {v3 : Option Nat} {v4 : Int32} {v5 : Int32} (h : (∃ a1 : Nat, v1 = some a1 ∧ xS0[a1]? = some (1, 0) ∧ (((I a1 11) ≤ v5 → (∃ Q2 : Int32 → xIt → xJt → xPt → Prop, xMet l V y_ED_addCandidate 5 0 0 [xq (some 227), xq v2, xq v3] xS0 I J P (xPi Q2) ∧ ∀ (z2 : Int32) (I2 : xIt) (J2 : xJt) (P2 : xPt), Q2 z2 I2 J2 P2 → Q z2 I2 J2 P2)) ∧ (¬ (I a1 11) ≤ v5 → (∃ Q3 : Int32 → xIt → xJt → xPt → Prop, xMet l V y_RQ_typeOf 3 0 0 [xq (some a1), xi v4] xS0 I J P (xPi Q3) ∧ ∀ (z3 : Int32) (I3 : xIt) (J3 : xJt) (P3 : xPt), Q3 z3 I3 J3 P3 → ((¬ z3 = (-1) → (vp_in z3 5 ∧ (∃ a4 : Nat, P3 229 z3.toNatClampNeg = some a4 ∧ xS0[a4]? = some (6, 0) ∧ (((I3 a4 2) ≤ 0 → (vp_in v5 18 ∧ (∃ Q5 : Int32 → xIt → xJt → xPt → Prop, xMet l V y_ED_readValues 4 0 0 [xq (some 227), xq v1, xi z3, xi (v4 + 1), xi (I3 (a1 + 4) v5.toNatClampNeg), xq (P3 229 z3.toNatClampNeg)] xS0 I3 J3 P3 (xPi Q5) ∧ ∀ (z5 : Int32) (I5 : xIt) (J5 : xJt) (P5 : xPt), Q5 z5 I5 J5 P5 → ((z5 = 0 → (vp_in z3 5 ∧ (((I5 a4 2) ≤ (xs1 z3.toNatClampNeg) → (vp_in v5 18 ∧ G_ED_add l V Q 13 [(0, xq (some 227)), (1, xq v1), (2, xq v2), (3, xq v3), (4, xi (v4 + (1 + (I5 (a1 + 4) v5.toNatClampNeg)))), (5, xi (v5 + 1))] [] I5 J5 P5)) ∧ (¬ (I5 a4 2) ≤ (xs1 z3.toNatClampNeg) → Q 19 I5 J5 P5)))) ∧ (¬ z5 = 0 → Q z5 I5 J5 P5))))) ∧ (¬ (I3 a4 2) ≤ 0 → Q 20 I3 J3 P3))))) ∧ (z3 = (-1) → Q 17 I3 J3 P3))))))) : G_ED_add l V Q 13 [(0, xq (some 227)), (1, xq v1), (2, xq v2), (3, xq v3), (4, xi v4), (5, xi v5)] [] I J P := by
  refine xG_iload d_ED_add_13 rfl ?_
  refine xG_aload_n d_ED_add_15 rfl rfl rfl ?_
  obtain ⟨a1, e1, s1, h⟩ := h
  refine xG_geti d_ED_add_16 xf_ED_32 e1 s1 ?_
  refine xG_icmp_ge (tgt := 129) d_ED_add_19 (by decide) (fun c => ?_) (fun c => ?_)
  · have h := h.1 c
    refine xG_aload_n d_ED_add_129 rfl rfl rfl ?_
    refine xG_aload_n d_ED_add_130 rfl rfl rfl ?_
    refine xG_aload_n d_ED_add_131 rfl rfl rfl ?_
    obtain ⟨Q2, hM, h⟩ := h
    refine xG_callv (as := [xq v2, xq v3]) (rest := []) d_ED_add_132 yv_ED_addCandidate w3_84 rfl rfl rfl s0_227 (by decide) rfl hM ⟨by decide, by decide⟩ (Nat.le_of_ble_eq_true rfl) ⟨Nat.zero_le _, Nat.zero_le _⟩ (fun r S2 I2 J2 P2 hp => ?_)
    obtain ⟨rfl, hL2, z2, rfl, hq⟩ := hp
    have h := h z2 I2 J2 P2 hq
    exact xG_ireturn d_ED_add_135 rfl rfl ⟨rfl, hL2, _, rfl, h⟩
  · have h := h.2 c
    refine xG_aload_n d_ED_add_22 rfl rfl rfl ?_
    refine xG_iload d_ED_add_23 rfl ?_
    obtain ⟨Q3, hM, h⟩ := h
    refine xG_callv (as := [xi v4]) (rest := []) d_ED_add_25 yv_RQ_typeOf w3_69 rfl e1 rfl s1 (by decide) rfl hM ⟨by decide, by decide⟩ (Nat.le_of_ble_eq_true rfl) ⟨Nat.zero_le _, Nat.zero_le _⟩ (fun r S3 I3 J3 P3 hp => ?_)
    obtain ⟨rfl, hL3, z3, rfl, hq⟩ := hp
    have h := h z3 I3 J3 P3 hq
    refine xG_istore (lv' := [(6, xi z3), (0, xq (some 227)), (1, xq v1), (2, xq v2), (3, xq v3), (4, xi v4), (5, xi v5)]) d_ED_add_28 (Nat.le_of_ble_eq_true rfl) rfl ?_
    refine xG_iload d_ED_add_30 rfl ?_
    refine xG_iconst (v := (-1)) d_ED_add_32 rfl ?_
    refine xG_icmp_ne (tgt := 39) d_ED_add_33 (by decide) (fun c => ?_) (fun c => ?_)
    · have h := h.1 c
      refine xG_aload_n d_ED_add_39 rfl rfl rfl ?_
      refine xG_getq d_ED_add_40 xf_ED_16 rfl s0_227 ?_
      refine xG_getq d_ED_add_43 xf_ED_40 (lp_227_0 hL3) s0_228 ?_
      refine xG_iload d_ED_add_46 rfl ?_
      refine xG_aald (t := 0) d_ED_add_48 (lp_228_0 hL3) s0_229 rfl h.1 ?_
      have h := h.2
      refine xG_astore (lv' := [(7, xq (P3 229 z3.toNatClampNeg)), (6, xi z3), (0, xq (some 227)), (1, xq v1), (2, xq v2), (3, xq v3), (4, xi v4), (5, xi v5)]) d_ED_add_49 (Nat.le_of_ble_eq_true rfl) rfl rfl ?_
      refine xG_aload d_ED_add_51 rfl rfl ?_
      obtain ⟨a4, e4, s4, h⟩ := h
      refine xG_geti d_ED_add_53 xf_ED_43 e4 s4 ?_
      refine xG_if_le (tgt := 62) d_ED_add_56 (by decide) (fun c => ?_) (fun c => ?_)
      · have h := h.1 c
        refine xG_aload_n d_ED_add_62 rfl rfl rfl ?_
        refine xG_aload_n d_ED_add_63 rfl rfl rfl ?_
        refine xG_iload d_ED_add_64 rfl ?_
        refine xG_iload d_ED_add_66 rfl ?_
        refine xG_iconst (v := 1) d_ED_add_68 rfl ?_
        refine xG_iadd d_ED_add_69 ?_
        refine xG_aload_n d_ED_add_70 rfl rfl rfl ?_
        refine xG_getq d_ED_add_71 xf_ED_46 e1 s1 ?_
        refine xG_iload d_ED_add_74 rfl ?_
        refine xG_iald d_ED_add_76 (lo_1_10 hL3 s1) (so_1_10 s1) h.1 ?_
        have h := h.2
        refine xG_aload d_ED_add_77 rfl rfl ?_
        obtain ⟨Q5, hM, h⟩ := h
        refine xG_callv (as := [xq v1, xi z3, xi (v4 + 1), xi (I3 (a1 + 4) v5.toNatClampNeg), xq (P3 229 z3.toNatClampNeg)]) (rest := []) d_ED_add_79 yv_ED_readValues w3_70 rfl rfl rfl s0_227 (by decide) rfl hM ⟨by decide, by decide⟩ (Nat.le_of_ble_eq_true rfl) ⟨Nat.zero_le _, Nat.zero_le _⟩ (fun r S5 I5 J5 P5 hp => ?_)
        obtain ⟨rfl, hL5, z5, rfl, hq⟩ := hp
        have h := h z5 I5 J5 P5 hq
        refine xG_istore (lv' := [(8, xi z5), (7, xq (P3 229 z3.toNatClampNeg)), (6, xi z3), (0, xq (some 227)), (1, xq v1), (2, xq v2), (3, xq v3), (4, xi v4), (5, xi v5)]) d_ED_add_82 (Nat.le_of_ble_eq_true rfl) rfl ?_
        refine xG_iload d_ED_add_84 rfl ?_
        refine xG_if_eq (tgt := 92) d_ED_add_86 (by decide) (fun c => ?_) (fun c => ?_)
        · have h := h.1 c
          refine xG_aload d_ED_add_92 rfl rfl ?_
          refine xG_geti d_ED_add_94 xf_ED_43 e4 s4 ?_
          refine xG_gets2 (q := ("DirectorySession", "MOST_OF_TYPE", "[I")) (j := 1) (i := 2) d_ED_add_97 rfl rfl ?_
          refine xG_iload d_ED_add_100 rfl ?_
          refine xG_ti d_ED_add_102 (by decide) rfl h.1 ?_
          have h := h.2
          refine xG_topi (x' := xs1 z3.toNatClampNeg) rfl ?_
          refine xG_icmp_le (tgt := 109) d_ED_add_103 (by decide) (fun c => ?_) (fun c => ?_)
          · have h := h.1 c
            refine xG_iload d_ED_add_109 rfl ?_
            refine xG_iconst (v := 1) d_ED_add_111 rfl ?_
            refine xG_aload_n d_ED_add_112 rfl rfl rfl ?_
            refine xG_getq d_ED_add_113 xf_ED_46 e1 s1 ?_
            refine xG_iload d_ED_add_116 rfl ?_
            refine xG_iald d_ED_add_118 (lo_1_10 hL5 s1) (so_1_10 s1) h.1 ?_
            have h := h.2
            refine xG_iadd d_ED_add_119 ?_
            refine xG_iadd d_ED_add_120 ?_
            refine xG_istore (lv' := [(4, xi (v4 + (1 + (I5 (a1 + 4) v5.toNatClampNeg)))), (8, xi z5), (7, xq (P3 229 z3.toNatClampNeg)), (6, xi z3), (0, xq (some 227)), (1, xq v1), (2, xq v2), (3, xq v3), (5, xi v5)]) d_ED_add_121 (Nat.le_of_ble_eq_true rfl) rfl ?_
            refine xG_iinc (v := v5 + 1) (lv' := [(5, xi (v5 + 1)), (4, xi (v4 + (1 + (I5 (a1 + 4) v5.toNatClampNeg)))), (8, xi z5), (7, xq (P3 229 z3.toNatClampNeg)), (6, xi z3), (0, xq (some 227)), (1, xq v1), (2, xq v2), (3, xq v3)]) d_ED_add_123 rfl rfl (Nat.le_of_ble_eq_true rfl) rfl ?_
            refine xG_goto (tgt := 13) d_ED_add_126 (by decide) ?_
            refine xG_pick [5, 6, 7, 8, 1, 0] rfl ?_
            exact h
          · have h := h.2 c
            refine xG_bipush (v := 19) d_ED_add_106 rfl ?_
            exact xG_ireturn d_ED_add_108 rfl rfl ⟨rfl, hL5, _, rfl, h⟩
        · have h := h.2 c
          refine xG_iload d_ED_add_89 rfl ?_
          exact xG_ireturn d_ED_add_91 rfl rfl ⟨rfl, hL5, _, rfl, h⟩
      · have h := h.2 c
        refine xG_bipush (v := 20) d_ED_add_59 rfl ?_
        exact xG_ireturn d_ED_add_61 rfl rfl ⟨rfl, hL3, _, rfl, h⟩
    · have h := h.2 c
      refine xG_bipush (v := 17) d_ED_add_36 rfl ?_
      exact xG_ireturn d_ED_add_38 rfl rfl ⟨rfl, hL3, _, rfl, h⟩
theorem e_ED_add {l : Launch} {V : xV} {Q : Int32 → xIt → xJt → xPt → Prop} {I : xIt} {J : xJt} {P : xPt} {v1 : Option Nat} {v2 : Option Nat} {v3 : Option Nat} (h : G_ED_add l V Q 0 [(0, xq (some 227)), (1, xq v1), (2, xq v2), (3, xq v3)] [] I J P) : xMet l V y_ED_add 6 0 0 [xq (some 227), xq v1, xq v2, xq v3] xS0 I J P (xPi Q) := xMet_of (by decide) (Nat.le_of_ble_eq_true rfl) h

abbrev G_ED_addCandidate (l : Launch) (V : xV) (Q : Int32 → xIt → xJt → xPt → Prop) (pc : Nat) (lv : List (Nat × xX)) (st : List xX) (I : xIt) (J : xJt) (P : xPt) : Prop := xG l V y_ED_addCandidate (xR 5 0 0) (xFn V y_ED_addCandidate (xR 5 0 0) (xPi Q)) pc lv st xS0 I J P (0, 0)
set_option maxRecDepth 20000 in
theorem b_ED_addCandidate_0 {l : Launch} {V : xV} {Q : Int32 → xIt → xJt → xPt → Prop} {I : xIt} {J : xJt} {P : xPt} (hL : xL P) {v1 : Option Nat} {v2 : Option Nat} (h : (∃ a1 : Nat, v1 = some a1 ∧ xS0[a1]? = some (3, 0) ∧ (((I a1 3) = 0 → Q 68 I J P) ∧ (¬ (I a1 3) = 0 → (∃ a2 : Nat, v2 = some a2 ∧ xS0[a2]? = some (4, 0) ∧ (∃ Q3 : Option Nat → xIt → xJt → xPt → Prop, xMet l V y_TR_find 3 0 0 [xq (some a2), xq v1, xi 0] xS0 I J P (xPq Q3) ∧ ∀ (z3 : Option Nat) (I3 : xIt) (J3 : xJt) (P3 : xPt), Q3 z3 I3 J3 P3 → ((z3 = none → (∃ Q4 : Option Nat → xIt → xJt → xPt → Prop, xMet l V y_TR_find 3 0 0 [xq (some a2), xq v1, xi 1] xS0 I3 J3 P3 (xPq Q4) ∧ ∀ (z4 : Option Nat) (I4 : xIt) (J4 : xJt) (P4 : xPt), Q4 z4 I4 J4 P4 → (xL (xu P4 228 1 z4) ∧ (∃ a6 : Nat, P4 227 0 = some a6 ∧ xS0[a6]? = some (5, 0) ∧ (∃ Q7 : xIt → xJt → xPt → Prop, xMet l V y_EN_takeNamePart 1 0 0 [xq (some a6), xq v1] xS0 I4 J4 (xu P4 228 1 z4) (xPv Q7) ∧ ∀ (I7 : xIt) (J7 : xJt) (P7 : xPt), Q7 I7 J7 P7 → ((¬ P7 228 1 = none → G_ED_addCandidate l V Q 61 [(0, xq (some 227)), (1, xq v1), (2, xq v2)] [] I7 J7 P7) ∧ (P7 228 1 = none → (((I7 a1 3) ≤ 1 → G_ED_addCandidate l V Q 61 [(0, xq (some 227)), (1, xq v1), (2, xq v2)] [] I7 J7 P7) ∧ (¬ (I7 a1 3) ≤ 1 → Q 32 I7 J7 P7))))))))) ∧ (¬ z3 = none → Q 68 I3 J3 P3)))))))) : G_ED_addCandidate l V Q 0 [(0, xq (some 227)), (1, xq v1), (2, xq v2)] [] I J P := by
  refine xG_aload_n d_ED_addCandidate_0 rfl rfl rfl ?_
  obtain ⟨a1, e1, s1, h⟩ := h
  refine xG_geti d_ED_addCandidate_1 xf_ED_61 e1 s1 ?_
  refine xG_if_eq (tgt := 16) d_ED_addCandidate_4 (by decide) (fun c => ?_) (fun c => ?_)
  · have h := h.1 c
    refine xG_bipush (v := 68) d_ED_addCandidate_16 rfl ?_
    exact xG_ireturn d_ED_addCandidate_18 rfl rfl ⟨rfl, hL, _, rfl, h⟩
  · have h := h.2 c
    refine xG_aload_n d_ED_addCandidate_7 rfl rfl rfl ?_
    refine xG_aload_n d_ED_addCandidate_8 rfl rfl rfl ?_
    refine xG_iconst (v := 0) d_ED_addCandidate_9 rfl ?_
    obtain ⟨a2, e2, s2, h⟩ := h
    obtain ⟨Q3, hM, h⟩ := h
    refine xG_callv (as := [xq v1, xi 0]) (rest := []) d_ED_addCandidate_10 yv_TR_find w3_88 rfl e2 rfl s2 (by decide) rfl hM ⟨by decide, by decide⟩ (Nat.le_of_ble_eq_true rfl) ⟨Nat.zero_le _, Nat.zero_le _⟩ (fun r S3 I3 J3 P3 hp => ?_)
    obtain ⟨rfl, hL3, z3, rfl, hq⟩ := hp
    have h := h z3 I3 J3 P3 hq
    refine xG_ifnull (tgt := 19) d_ED_addCandidate_13 (by decide) (fun c => ?_) (fun c => ?_)
    · have h := h.1 c
      refine xG_aload_n d_ED_addCandidate_19 rfl rfl rfl ?_
      refine xG_getq d_ED_addCandidate_20 xf_ED_16 rfl s0_227 ?_
      refine xG_aload_n d_ED_addCandidate_23 rfl rfl rfl ?_
      refine xG_aload_n d_ED_addCandidate_24 rfl rfl rfl ?_
      refine xG_iconst (v := 1) d_ED_addCandidate_25 rfl ?_
      obtain ⟨Q4, hM, h⟩ := h
      refine xG_callv (as := [xq v1, xi 1]) (rest := [xq (P3 227 0)]) d_ED_addCandidate_26 yv_TR_find w3_88 rfl e2 rfl s2 (by decide) rfl hM ⟨by decide, by decide⟩ (Nat.le_of_ble_eq_true rfl) ⟨Nat.zero_le _, Nat.zero_le _⟩ (fun r S4 I4 J4 P4 hp => ?_)
      obtain ⟨rfl, hL4, z4, rfl, hq⟩ := hp
      have h := h z4 I4 J4 P4 hq
      refine xG_putq d_ED_addCandidate_29 xf_ED_72 (Or.inl rfl) (lp_227_0 hL3) s0_228 ?_
      have hL5 := h.1
      have h := h.2
      refine xG_aload_n d_ED_addCandidate_32 rfl rfl rfl ?_
      refine xG_getq d_ED_addCandidate_33 xf_ED_16 rfl s0_227 ?_
      refine xG_topq (x' := P4 227 0) (by first | rfl | exact xu_at | simp [xu]) ?_
      refine xG_aload_n d_ED_addCandidate_36 rfl rfl rfl ?_
      obtain ⟨a6, e6, s6, h⟩ := h
      obtain ⟨Q7, hM, h⟩ := h
      refine xG_callv (as := [xq v1]) (rest := []) d_ED_addCandidate_37 yv_EN_takeNamePart w3_89 rfl e6 rfl s6 (by decide) rfl hM ⟨by decide, by decide⟩ (Nat.le_of_ble_eq_true rfl) ⟨Nat.zero_le _, Nat.zero_le _⟩ (fun r S7 I7 J7 P7 hp => ?_)
      obtain ⟨rfl, hL7, rfl, hq⟩ := hp
      have h := h I7 J7 P7 hq
      refine xG_aload_n d_ED_addCandidate_40 rfl rfl rfl ?_
      refine xG_getq d_ED_addCandidate_41 xf_ED_16 rfl s0_227 ?_
      refine xG_getq d_ED_addCandidate_44 xf_ED_72 (lp_227_0 hL7) s0_228 ?_
      refine xG_ifnonnull (tgt := 61) d_ED_addCandidate_47 (by decide) (fun c => ?_) (fun c => ?_)
      · have h := h.1 c
        exact h
      · have h := h.2 c
        refine xG_aload_n d_ED_addCandidate_50 rfl rfl rfl ?_
        refine xG_geti d_ED_addCandidate_51 xf_ED_61 e1 s1 ?_
        refine xG_iconst (v := 1) d_ED_addCandidate_54 rfl ?_
        refine xG_icmp_le (tgt := 61) d_ED_addCandidate_55 (by decide) (fun c => ?_) (fun c => ?_)
        · have h := h.1 c
          exact h
        · have h := h.2 c
          refine xG_bipush (v := 32) d_ED_addCandidate_58 rfl ?_
          exact xG_ireturn d_ED_addCandidate_60 rfl rfl ⟨rfl, hL7, _, rfl, h⟩
    · have h := h.2 c
      refine xG_bipush (v := 68) d_ED_addCandidate_16 rfl ?_
      exact xG_ireturn d_ED_addCandidate_18 rfl rfl ⟨rfl, hL3, _, rfl, h⟩
set_option maxRecDepth 20000 in
theorem b_ED_addCandidate_61 {l : Launch} {V : xV} {Q : Int32 → xIt → xJt → xPt → Prop} {I : xIt} {J : xJt} {P : xPt} (hL : xL P) {v1 : Option Nat} {v2 : Option Nat} (h : (∃ a1 : Nat, v2 = some a1 ∧ xS0[a1]? = some (4, 0) ∧ (∃ Q2 : Int32 → xIt → xJt → xPt → Prop, xMet l V y_TR_isFull 1 0 0 [xq (some a1)] xS0 I J P (xPi Q2) ∧ ∀ (z2 : Int32) (I2 : xIt) (J2 : xJt) (P2 : xPt), Q2 z2 I2 J2 P2 → ((z2 = 0 → (∃ Q3 : Int32 → xIt → xJt → xPt → Prop, xMet l V y_EN_fitsSchema 3 0 0 [xq (some 228)] xS0 I2 J2 P2 (xPi Q3) ∧ ∀ (z3 : Int32) (I3 : xIt) (J3 : xJt) (P3 : xPt), Q3 z3 I3 J3 P3 → ((¬ z3 = 0 → (∃ Q4 : Int32 → xIt → xJt → xPt → Prop, xMet l V y_EN_hasItsNamePart 2 0 0 [xq (some 228)] xS0 I3 J3 P3 (xPi Q4) ∧ ∀ (z4 : Int32) (I4 : xIt) (J4 : xJt) (P4 : xPt), Q4 z4 I4 J4 P4 → ((¬ z4 = 0 → (∃ Q5 : xIt → xJt → xPt → Prop, xMet l V y_TR_addCopy 4 0 0 [xq (some a1), xq (P4 227 0)] xS0 I4 J4 P4 (xPv Q5) ∧ ∀ (I5 : xIt) (J5 : xJt) (P5 : xPt), Q5 I5 J5 P5 → Q 0 I5 J5 P5)) ∧ (z4 = 0 → Q 64 I4 J4 P4)))) ∧ (z3 = 0 → Q 65 I3 J3 P3)))) ∧ (¬ z2 = 0 → Q 53 I2 J2 P2))))) : G_ED_addCandidate l V Q 61 [(0, xq (some 227)), (1, xq v1), (2, xq v2)] [] I J P := by
  refine xG_aload_n d_ED_addCandidate_61 rfl rfl rfl ?_
  obtain ⟨a1, e1, s1, h⟩ := h
  obtain ⟨Q2, hM, h⟩ := h
  refine xG_callv (as := []) (rest := []) d_ED_addCandidate_62 yv_TR_isFull w3_93 rfl e1 rfl s1 (by decide) rfl hM ⟨by decide, by decide⟩ (Nat.le_of_ble_eq_true rfl) ⟨Nat.zero_le _, Nat.zero_le _⟩ (fun r S2 I2 J2 P2 hp => ?_)
  obtain ⟨rfl, hL2, z2, rfl, hq⟩ := hp
  have h := h z2 I2 J2 P2 hq
  refine xG_if_eq (tgt := 71) d_ED_addCandidate_65 (by decide) (fun c => ?_) (fun c => ?_)
  · have h := h.1 c
    refine xG_aload_n d_ED_addCandidate_71 rfl rfl rfl ?_
    refine xG_getq d_ED_addCandidate_72 xf_ED_16 rfl s0_227 ?_
    obtain ⟨Q3, hM, h⟩ := h
    refine xG_callv (as := []) (rest := []) d_ED_addCandidate_75 yv_EN_fitsSchema w3_97 rfl (lp_227_0 hL2) rfl s0_228 (by decide) rfl hM ⟨by decide, by decide⟩ (Nat.le_of_ble_eq_true rfl) ⟨Nat.zero_le _, Nat.zero_le _⟩ (fun r S3 I3 J3 P3 hp => ?_)
    obtain ⟨rfl, hL3, z3, rfl, hq⟩ := hp
    have h := h z3 I3 J3 P3 hq
    refine xG_if_ne (tgt := 84) d_ED_addCandidate_78 (by decide) (fun c => ?_) (fun c => ?_)
    · have h := h.1 c
      refine xG_aload_n d_ED_addCandidate_84 rfl rfl rfl ?_
      refine xG_getq d_ED_addCandidate_85 xf_ED_16 rfl s0_227 ?_
      obtain ⟨Q4, hM, h⟩ := h
      refine xG_callv (as := []) (rest := []) d_ED_addCandidate_88 yv_EN_hasItsNamePart w3_106 rfl (lp_227_0 hL3) rfl s0_228 (by decide) rfl hM ⟨by decide, by decide⟩ (Nat.le_of_ble_eq_true rfl) ⟨Nat.zero_le _, Nat.zero_le _⟩ (fun r S4 I4 J4 P4 hp => ?_)
      obtain ⟨rfl, hL4, z4, rfl, hq⟩ := hp
      have h := h z4 I4 J4 P4 hq
      refine xG_if_ne (tgt := 97) d_ED_addCandidate_91 (by decide) (fun c => ?_) (fun c => ?_)
      · have h := h.1 c
        refine xG_aload_n d_ED_addCandidate_97 rfl rfl rfl ?_
        refine xG_aload_n d_ED_addCandidate_98 rfl rfl rfl ?_
        refine xG_getq d_ED_addCandidate_99 xf_ED_16 rfl s0_227 ?_
        obtain ⟨Q5, hM, h⟩ := h
        refine xG_callv (as := [xq (P4 227 0)]) (rest := []) d_ED_addCandidate_102 yv_TR_addCopy w3_111 rfl e1 rfl s1 (by decide) rfl hM ⟨by decide, by decide⟩ (Nat.le_of_ble_eq_true rfl) ⟨Nat.zero_le _, Nat.zero_le _⟩ (fun r S5 I5 J5 P5 hp => ?_)
        obtain ⟨rfl, hL5, rfl, hq⟩ := hp
        have h := h I5 J5 P5 hq
        refine xG_iconst (v := 0) d_ED_addCandidate_105 rfl ?_
        exact xG_ireturn d_ED_addCandidate_106 rfl rfl ⟨rfl, hL5, _, rfl, h⟩
      · have h := h.2 c
        refine xG_bipush (v := 64) d_ED_addCandidate_94 rfl ?_
        exact xG_ireturn d_ED_addCandidate_96 rfl rfl ⟨rfl, hL4, _, rfl, h⟩
    · have h := h.2 c
      refine xG_bipush (v := 65) d_ED_addCandidate_81 rfl ?_
      exact xG_ireturn d_ED_addCandidate_83 rfl rfl ⟨rfl, hL3, _, rfl, h⟩
  · have h := h.2 c
    refine xG_bipush (v := 53) d_ED_addCandidate_68 rfl ?_
    exact xG_ireturn d_ED_addCandidate_70 rfl rfl ⟨rfl, hL2, _, rfl, h⟩
theorem e_ED_addCandidate {l : Launch} {V : xV} {Q : Int32 → xIt → xJt → xPt → Prop} {I : xIt} {J : xJt} {P : xPt} {v1 : Option Nat} {v2 : Option Nat} (h : G_ED_addCandidate l V Q 0 [(0, xq (some 227)), (1, xq v1), (2, xq v2)] [] I J P) : xMet l V y_ED_addCandidate 5 0 0 [xq (some 227), xq v1, xq v2] xS0 I J P (xPi Q) := xMet_of (by decide) (Nat.le_of_ble_eq_true rfl) h

abbrev G_ED_modify (l : Launch) (V : xV) (Q : Int32 → xIt → xJt → xPt → Prop) (pc : Nat) (lv : List (Nat × xX)) (st : List xX) (I : xIt) (J : xJt) (P : xPt) : Prop := xG l V y_ED_modify (xR 5 0 0) (xFn V y_ED_modify (xR 5 0 0) (xPi Q)) pc lv st xS0 I J P (0, 0)
set_option maxRecDepth 20000 in
theorem b_ED_modify_0 {l : Launch} {V : xV} {Q : Int32 → xIt → xJt → xPt → Prop} {I : xIt} {J : xJt} {P : xPt} (hL : xL P) {v1 : Option Nat} {v2 : Option Nat} (h : (∃ a1 : Nat, v1 = some a1 ∧ xS0[a1]? = some (1, 0) ∧ (∃ Q2 : Int32 → xIt → xJt → xPt → Prop, xMet l V y_RQ_typeOf 3 0 0 [xq (some a1), xi 1] xS0 I J P (xPi Q2) ∧ ∀ (z2 : Int32) (I2 : xIt) (J2 : xJt) (P2 : xPt), Q2 z2 I2 J2 P2 → ((¬ z2 = (-1) → (∃ Q3 : xIt → xJt → xPt → Prop, xMet l V y_VR_clear 1 0 0 [xq (some 245)] xS0 I2 J2 P2 (xPv Q3) ∧ ∀ (I3 : xIt) (J3 : xJt) (P3 : xPt), Q3 I3 J3 P3 → (∃ Q4 : Int32 → xIt → xJt → xPt → Prop, xMet l V y_ED_readValues 4 0 0 [xq (some 227), xq v1, xi z2, xi 2, xi (I3 (a1 + 4) 0), xq (P3 227 1)] xS0 I3 J3 P3 (xPi Q4) ∧ ∀ (z4 : Int32) (I4 : xIt) (J4 : xJt) (P4 : xPt), Q4 z4 I4 J4 P4 → ((z4 = 0 → (∃ Q5 : xIt → xJt → xPt → Prop, xMet l V y_EN_copy 3 0 0 [xq (some 228), xq v2] xS0 I4 J4 P4 (xPv Q5) ∧ ∀ (I5 : xIt) (J5 : xJt) (P5 : xPt), Q5 I5 J5 P5 → (∃ Q6 : Int32 → xIt → xJt → xPt → Prop, xMet l V y_ED_change 4 0 0 [xq (some 227), xi (I5 a1 5), xi z2] xS0 I5 J5 P5 (xPi Q6) ∧ ∀ (z6 : Int32) (I6 : xIt) (J6 : xJt) (P6 : xPt), Q6 z6 I6 J6 P6 → ((z6 = 0 → (∃ Q7 : Int32 → xIt → xJt → xPt → Prop, xMet l V y_EN_hasItsNamePart 2 0 0 [xq (some 228)] xS0 I6 J6 P6 (xPi Q7) ∧ ∀ (z7 : Int32) (I7 : xIt) (J7 : xJt) (P7 : xPt), Q7 z7 I7 J7 P7 → ((¬ z7 = 0 → (∃ Q8 : Int32 → xIt → xJt → xPt → Prop, xMet l V y_EN_structuralClasses 3 0 0 [xq (some 228)] xS0 I7 J7 P7 (xPi Q8) ∧ ∀ (z8 : Int32) (I8 : xIt) (J8 : xJt) (P8 : xPt), Q8 z8 I8 J8 P8 → (∃ a9 : Nat, v2 = some a9 ∧ xS0[a9]? = some (5, 0) ∧ (∃ Q10 : Int32 → xIt → xJt → xPt → Prop, xMet l V y_EN_structuralClasses 3 0 0 [xq (some a9)] xS0 I8 J8 P8 (xPi Q10) ∧ ∀ (z10 : Int32) (I10 : xIt) (J10 : xJt) (P10 : xPt), Q10 z10 I10 J10 P10 → ((z8 = z10 → (∃ Q11 : Int32 → xIt → xJt → xPt → Prop, xMet l V y_EN_fitsSchema 3 0 0 [xq (some 228)] xS0 I10 J10 P10 (xPi Q11) ∧ ∀ (z11 : Int32) (I11 : xIt) (J11 : xJt) (P11 : xPt), Q11 z11 I11 J11 P11 → ((¬ z11 = 0 → (∃ Q12 : xIt → xJt → xPt → Prop, xMet l V y_EN_copy 3 0 0 [xq (some a9), xq (P11 227 0)] xS0 I11 J11 P11 (xPv Q12) ∧ ∀ (I12 : xIt) (J12 : xJt) (P12 : xPt), Q12 I12 J12 P12 → Q 0 I12 J12 P12)) ∧ (z11 = 0 → Q 65 I11 J11 P11)))) ∧ (¬ z8 = z10 → Q 69 I10 J10 P10)))))) ∧ (z7 = 0 → Q 67 I7 J7 P7)))) ∧ (¬ z6 = 0 → Q z6 I6 J6 P6))))) ∧ (¬ z4 = 0 → Q z4 I4 J4 P4))))) ∧ (z2 = (-1) → Q 17 I2 J2 P2))))) : G_ED_modify l V Q 0 [(0, xq (some 227)), (1, xq v1), (2, xq v2)] [] I J P := by
  refine xG_aload_n d_ED_modify_0 rfl rfl rfl ?_
  refine xG_iconst (v := 1) d_ED_modify_1 rfl ?_
  obtain ⟨a1, e1, s1, h⟩ := h
  obtain ⟨Q2, hM, h⟩ := h
  refine xG_callv (as := [xi 1]) (rest := []) d_ED_modify_2 yv_RQ_typeOf w3_69 rfl e1 rfl s1 (by decide) rfl hM ⟨by decide, by decide⟩ (Nat.le_of_ble_eq_true rfl) ⟨Nat.zero_le _, Nat.zero_le _⟩ (fun r S2 I2 J2 P2 hp => ?_)
  obtain ⟨rfl, hL2, z2, rfl, hq⟩ := hp
  have h := h z2 I2 J2 P2 hq
  refine xG_istore_n (lv' := [(3, xi z2), (0, xq (some 227)), (1, xq v1), (2, xq v2)]) d_ED_modify_5 rfl (Nat.le_of_ble_eq_true rfl) rfl ?_
  refine xG_iload_n d_ED_modify_6 rfl rfl ?_
  refine xG_iconst (v := (-1)) d_ED_modify_7 rfl ?_
  refine xG_icmp_ne (tgt := 14) d_ED_modify_8 (by decide) (fun c => ?_) (fun c => ?_)
  · have h := h.1 c
    refine xG_aload_n d_ED_modify_14 rfl rfl rfl ?_
    refine xG_getq d_ED_modify_15 xf_ED_25 rfl s0_227 ?_
    obtain ⟨Q3, hM, h⟩ := h
    refine xG_callv (as := []) (rest := []) d_ED_modify_18 yv_VR_clear w3_140 rfl (lp_227_1 hL2) rfl s0_245 (by decide) rfl hM ⟨by decide, by decide⟩ (Nat.le_of_ble_eq_true rfl) ⟨Nat.zero_le _, Nat.zero_le _⟩ (fun r S3 I3 J3 P3 hp => ?_)
    obtain ⟨rfl, hL3, rfl, hq⟩ := hp
    have h := h I3 J3 P3 hq
    refine xG_aload_n d_ED_modify_21 rfl rfl rfl ?_
    refine xG_aload_n d_ED_modify_22 rfl rfl rfl ?_
    refine xG_iload_n d_ED_modify_23 rfl rfl ?_
    refine xG_iconst (v := 2) d_ED_modify_24 rfl ?_
    refine xG_aload_n d_ED_modify_25 rfl rfl rfl ?_
    refine xG_getq d_ED_modify_26 xf_ED_46 e1 s1 ?_
    refine xG_iconst (v := 0) d_ED_modify_29 rfl ?_
    refine xG_iald d_ED_modify_30 (lo_1_10 hL3 s1) (so_1_10 s1) (x_vp (by decide)) ?_
    refine xG_topi (x' := I3 (a1 + 4) 0) (by first | rfl | exact xu_at | simp [xu]) ?_
    refine xG_aload_n d_ED_modify_31 rfl rfl rfl ?_
    refine xG_getq d_ED_modify_32 xf_ED_25 rfl s0_227 ?_
    obtain ⟨Q4, hM, h⟩ := h
    refine xG_callv (as := [xq v1, xi z2, xi 2, xi (I3 (a1 + 4) 0), xq (P3 227 1)]) (rest := []) d_ED_modify_35 yv_ED_readValues w3_70 rfl rfl rfl s0_227 (by decide) rfl hM ⟨by decide, by decide⟩ (Nat.le_of_ble_eq_true rfl) ⟨Nat.zero_le _, Nat.zero_le _⟩ (fun r S4 I4 J4 P4 hp => ?_)
    obtain ⟨rfl, hL4, z4, rfl, hq⟩ := hp
    have h := h z4 I4 J4 P4 hq
    refine xG_istore (lv' := [(4, xi z4), (3, xi z2), (0, xq (some 227)), (1, xq v1), (2, xq v2)]) d_ED_modify_38 (Nat.le_of_ble_eq_true rfl) rfl ?_
    refine xG_iload d_ED_modify_40 rfl ?_
    refine xG_if_eq (tgt := 48) d_ED_modify_42 (by decide) (fun c => ?_) (fun c => ?_)
    · have h := h.1 c
      refine xG_aload_n d_ED_modify_48 rfl rfl rfl ?_
      refine xG_getq d_ED_modify_49 xf_ED_16 rfl s0_227 ?_
      refine xG_aload_n d_ED_modify_52 rfl rfl rfl ?_
      obtain ⟨Q5, hM, h⟩ := h
      refine xG_callv (as := [xq v2]) (rest := []) d_ED_modify_53 yv_EN_copy w3_130 rfl (lp_227_0 hL4) rfl s0_228 (by decide) rfl hM ⟨by decide, by decide⟩ (Nat.le_of_ble_eq_true rfl) ⟨Nat.zero_le _, Nat.zero_le _⟩ (fun r S5 I5 J5 P5 hp => ?_)
      obtain ⟨rfl, hL5, rfl, hq⟩ := hp
      have h := h I5 J5 P5 hq
      refine xG_aload_n d_ED_modify_56 rfl rfl rfl ?_
      refine xG_aload_n d_ED_modify_57 rfl rfl rfl ?_
      refine xG_geti d_ED_modify_58 xf_ED_97 e1 s1 ?_
      refine xG_iload_n d_ED_modify_61 rfl rfl ?_
      obtain ⟨Q6, hM, h⟩ := h
      refine xG_callv (as := [xi (I5 a1 5), xi z2]) (rest := []) d_ED_modify_62 yv_ED_change w3_141 rfl rfl rfl s0_227 (by decide) rfl hM ⟨by decide, by decide⟩ (Nat.le_of_ble_eq_true rfl) ⟨Nat.zero_le _, Nat.zero_le _⟩ (fun r S6 I6 J6 P6 hp => ?_)
      obtain ⟨rfl, hL6, z6, rfl, hq⟩ := hp
      have h := h z6 I6 J6 P6 hq
      refine xG_istore (lv' := [(4, xi z6), (3, xi z2), (0, xq (some 227)), (1, xq v1), (2, xq v2)]) d_ED_modify_65 (Nat.le_of_ble_eq_true rfl) rfl ?_
      refine xG_iload d_ED_modify_67 rfl ?_
      refine xG_if_eq (tgt := 75) d_ED_modify_69 (by decide) (fun c => ?_) (fun c => ?_)
      · have h := h.1 c
        refine xG_aload_n d_ED_modify_75 rfl rfl rfl ?_
        refine xG_getq d_ED_modify_76 xf_ED_16 rfl s0_227 ?_
        obtain ⟨Q7, hM, h⟩ := h
        refine xG_callv (as := []) (rest := []) d_ED_modify_79 yv_EN_hasItsNamePart w3_106 rfl (lp_227_0 hL6) rfl s0_228 (by decide) rfl hM ⟨by decide, by decide⟩ (Nat.le_of_ble_eq_true rfl) ⟨Nat.zero_le _, Nat.zero_le _⟩ (fun r S7 I7 J7 P7 hp => ?_)
        obtain ⟨rfl, hL7, z7, rfl, hq⟩ := hp
        have h := h z7 I7 J7 P7 hq
        refine xG_if_ne (tgt := 88) d_ED_modify_82 (by decide) (fun c => ?_) (fun c => ?_)
        · have h := h.1 c
          refine xG_aload_n d_ED_modify_88 rfl rfl rfl ?_
          refine xG_getq d_ED_modify_89 xf_ED_16 rfl s0_227 ?_
          obtain ⟨Q8, hM, h⟩ := h
          refine xG_callv (as := []) (rest := []) d_ED_modify_92 yv_EN_structuralClasses w3_169 rfl (lp_227_0 hL7) rfl s0_228 (by decide) rfl hM ⟨by decide, by decide⟩ (Nat.le_of_ble_eq_true rfl) ⟨Nat.zero_le _, Nat.zero_le _⟩ (fun r S8 I8 J8 P8 hp => ?_)
          obtain ⟨rfl, hL8, z8, rfl, hq⟩ := hp
          have h := h z8 I8 J8 P8 hq
          refine xG_aload_n d_ED_modify_95 rfl rfl rfl ?_
          obtain ⟨a9, e9, s9, h⟩ := h
          obtain ⟨Q10, hM, h⟩ := h
          refine xG_callv (as := []) (rest := [xi z8]) d_ED_modify_96 yv_EN_structuralClasses w3_169 rfl e9 rfl s9 (by decide) rfl hM ⟨by decide, by decide⟩ (Nat.le_of_ble_eq_true rfl) ⟨Nat.zero_le _, Nat.zero_le _⟩ (fun r S10 I10 J10 P10 hp => ?_)
          obtain ⟨rfl, hL10, z10, rfl, hq⟩ := hp
          have h := h z10 I10 J10 P10 hq
          refine xG_icmp_eq (tgt := 105) d_ED_modify_99 (by decide) (fun c => ?_) (fun c => ?_)
          · have h := h.1 c
            refine xG_aload_n d_ED_modify_105 rfl rfl rfl ?_
            refine xG_getq d_ED_modify_106 xf_ED_16 rfl s0_227 ?_
            obtain ⟨Q11, hM, h⟩ := h
            refine xG_callv (as := []) (rest := []) d_ED_modify_109 yv_EN_fitsSchema w3_97 rfl (lp_227_0 hL10) rfl s0_228 (by decide) rfl hM ⟨by decide, by decide⟩ (Nat.le_of_ble_eq_true rfl) ⟨Nat.zero_le _, Nat.zero_le _⟩ (fun r S11 I11 J11 P11 hp => ?_)
            obtain ⟨rfl, hL11, z11, rfl, hq⟩ := hp
            have h := h z11 I11 J11 P11 hq
            refine xG_if_ne (tgt := 118) d_ED_modify_112 (by decide) (fun c => ?_) (fun c => ?_)
            · have h := h.1 c
              refine xG_aload_n d_ED_modify_118 rfl rfl rfl ?_
              refine xG_aload_n d_ED_modify_119 rfl rfl rfl ?_
              refine xG_getq d_ED_modify_120 xf_ED_16 rfl s0_227 ?_
              obtain ⟨Q12, hM, h⟩ := h
              refine xG_callv (as := [xq (P11 227 0)]) (rest := []) d_ED_modify_123 yv_EN_copy w3_130 rfl e9 rfl s9 (by decide) rfl hM ⟨by decide, by decide⟩ (Nat.le_of_ble_eq_true rfl) ⟨Nat.zero_le _, Nat.zero_le _⟩ (fun r S12 I12 J12 P12 hp => ?_)
              obtain ⟨rfl, hL12, rfl, hq⟩ := hp
              have h := h I12 J12 P12 hq
              refine xG_iconst (v := 0) d_ED_modify_126 rfl ?_
              exact xG_ireturn d_ED_modify_127 rfl rfl ⟨rfl, hL12, _, rfl, h⟩
            · have h := h.2 c
              refine xG_bipush (v := 65) d_ED_modify_115 rfl ?_
              exact xG_ireturn d_ED_modify_117 rfl rfl ⟨rfl, hL11, _, rfl, h⟩
          · have h := h.2 c
            refine xG_bipush (v := 69) d_ED_modify_102 rfl ?_
            exact xG_ireturn d_ED_modify_104 rfl rfl ⟨rfl, hL10, _, rfl, h⟩
        · have h := h.2 c
          refine xG_bipush (v := 67) d_ED_modify_85 rfl ?_
          exact xG_ireturn d_ED_modify_87 rfl rfl ⟨rfl, hL7, _, rfl, h⟩
      · have h := h.2 c
        refine xG_iload d_ED_modify_72 rfl ?_
        exact xG_ireturn d_ED_modify_74 rfl rfl ⟨rfl, hL6, _, rfl, h⟩
    · have h := h.2 c
      refine xG_iload d_ED_modify_45 rfl ?_
      exact xG_ireturn d_ED_modify_47 rfl rfl ⟨rfl, hL4, _, rfl, h⟩
  · have h := h.2 c
    refine xG_bipush (v := 17) d_ED_modify_11 rfl ?_
    exact xG_ireturn d_ED_modify_13 rfl rfl ⟨rfl, hL2, _, rfl, h⟩
theorem e_ED_modify {l : Launch} {V : xV} {Q : Int32 → xIt → xJt → xPt → Prop} {I : xIt} {J : xJt} {P : xPt} {v1 : Option Nat} {v2 : Option Nat} (h : G_ED_modify l V Q 0 [(0, xq (some 227)), (1, xq v1), (2, xq v2)] [] I J P) : xMet l V y_ED_modify 5 0 0 [xq (some 227), xq v1, xq v2] xS0 I J P (xPi Q) := xMet_of (by decide) (Nat.le_of_ble_eq_true rfl) h

abbrev G_ED_change (l : Launch) (V : xV) (Q : Int32 → xIt → xJt → xPt → Prop) (pc : Nat) (lv : List (Nat × xX)) (st : List xX) (I : xIt) (J : xJt) (P : xPt) : Prop := xG l V y_ED_change (xR 4 0 0) (xFn V y_ED_change (xR 4 0 0) (xPi Q)) pc lv st xS0 I J P (0, 0)
set_option maxRecDepth 20000 in
theorem b_ED_change_0 {l : Launch} {V : xV} {Q : Int32 → xIt → xJt → xPt → Prop} {I : xIt} {J : xJt} {P : xPt} (hL : xL P) {v1 : Int32} {v2 : Int32} (h : (vp_in v2 5 ∧ ((¬ v1 = 1 → ((¬ v1 = 0 → (∃ a1 : Nat, P 229 v2.toNatClampNeg = some a1 ∧ xS0[a1]? = some (6, 0) ∧ (∃ Q2 : xIt → xJt → xPt → Prop, xMet l V y_VR_copy 2 0 0 [xq (some a1), xq (P 227 1)] xS0 I J P (xPv Q2) ∧ ∀ (I2 : xIt) (J2 : xJt) (P2 : xPt), Q2 I2 J2 P2 → (vp_in v2 5 ∧ (((I2 a1 2) ≤ (xs1 v2.toNatClampNeg) → Q 0 I2 J2 P2) ∧ (¬ (I2 a1 2) ≤ (xs1 v2.toNatClampNeg) → Q 19 I2 J2 P2)))))) ∧ (v1 = 0 → ((¬ (I 245 2) = 0 → (∃ a3 : Nat, P 229 v2.toNatClampNeg = some a3 ∧ xS0[a3]? = some (6, 0) ∧ (∃ Q4 : Int32 → xIt → xJt → xPt → Prop, xMet l V y_VR_hasAny 2 0 0 [xq (some a3), xq (P 227 1)] xS0 I J P (xPi Q4) ∧ ∀ (z4 : Int32) (I4 : xIt) (J4 : xJt) (P4 : xPt), Q4 z4 I4 J4 P4 → ((z4 = 0 → (∃ Q5 : xIt → xJt → xPt → Prop, xMet l V y_VR_addAll 2 0 0 [xq (some a3), xq (P4 227 1)] xS0 I4 J4 P4 (xPv Q5) ∧ ∀ (I5 : xIt) (J5 : xJt) (P5 : xPt), Q5 I5 J5 P5 → (vp_in v2 5 ∧ (((I5 a3 2) ≤ (xs1 v2.toNatClampNeg) → Q 0 I5 J5 P5) ∧ (¬ (I5 a3 2) ≤ (xs1 v2.toNatClampNeg) → Q 19 I5 J5 P5))))) ∧ (¬ z4 = 0 → Q 20 I4 J4 P4))))) ∧ ((I 245 2) = 0 → Q 2 I J P))))) ∧ (v1 = 1 → (∃ Q6 : Int32 → xIt → xJt → xPt → Prop, xMet l V y_ED_takeAway 3 0 0 [xq (some 227), xq (P 229 v2.toNatClampNeg)] xS0 I J P (xPi Q6) ∧ ∀ (z6 : Int32) (I6 : xIt) (J6 : xJt) (P6 : xPt), Q6 z6 I6 J6 P6 → Q z6 I6 J6 P6))))) : G_ED_change l V Q 0 [(0, xq (some 227)), (1, xi v1), (2, xi v2)] [] I J P := by
  refine xG_aload_n d_ED_change_0 rfl rfl rfl ?_
  refine xG_getq d_ED_change_1 xf_ED_16 rfl s0_227 ?_
  refine xG_getq d_ED_change_4 xf_ED_40 (lp_227_0 hL) s0_228 ?_
  refine xG_iload_n d_ED_change_7 rfl rfl ?_
  refine xG_aald (t := 0) d_ED_change_8 (lp_228_0 hL) s0_229 rfl h.1 ?_
  have h := h.2
  refine xG_astore_n (lv' := [(3, xq (P 229 v2.toNatClampNeg)), (0, xq (some 227)), (1, xi v1), (2, xi v2)]) d_ED_change_9 rfl (Nat.le_of_ble_eq_true rfl) rfl rfl ?_
  refine xG_iload_n d_ED_change_10 rfl rfl ?_
  refine xG_iconst (v := 1) d_ED_change_11 rfl ?_
  refine xG_icmp_ne (tgt := 21) d_ED_change_12 (by decide) (fun c => ?_) (fun c => ?_)
  · have h := h.1 c
    refine xG_iload_n d_ED_change_21 rfl rfl ?_
    refine xG_if_ne (tgt := 62) d_ED_change_22 (by decide) (fun c => ?_) (fun c => ?_)
    · have h := h.1 c
      refine xG_aload_n d_ED_change_62 rfl rfl rfl ?_
      refine xG_aload_n d_ED_change_63 rfl rfl rfl ?_
      refine xG_getq d_ED_change_64 xf_ED_25 rfl s0_227 ?_
      obtain ⟨a1, e1, s1, h⟩ := h
      obtain ⟨Q2, hM, h⟩ := h
      refine xG_callv (as := [xq (P 227 1)]) (rest := []) d_ED_change_67 yv_VR_copy w3_168 rfl e1 rfl s1 (by decide) rfl hM ⟨by decide, by decide⟩ (Nat.le_of_ble_eq_true rfl) ⟨Nat.zero_le _, Nat.zero_le _⟩ (fun r S2 I2 J2 P2 hp => ?_)
      obtain ⟨rfl, hL2, rfl, hq⟩ := hp
      have h := h I2 J2 P2 hq
      refine xG_aload_n d_ED_change_70 rfl rfl rfl ?_
      refine xG_geti d_ED_change_71 xf_ED_43 e1 s1 ?_
      refine xG_gets2 (q := ("DirectorySession", "MOST_OF_TYPE", "[I")) (j := 1) (i := 2) d_ED_change_74 rfl rfl ?_
      refine xG_iload_n d_ED_change_77 rfl rfl ?_
      refine xG_ti d_ED_change_78 (by decide) rfl h.1 ?_
      have h := h.2
      refine xG_topi (x' := xs1 v2.toNatClampNeg) rfl ?_
      refine xG_icmp_le (tgt := 87) d_ED_change_79 (by decide) (fun c => ?_) (fun c => ?_)
      · have h := h.1 c
        refine xG_iconst (v := 0) d_ED_change_87 rfl ?_
        exact xG_ireturn d_ED_change_88 rfl rfl ⟨rfl, hL2, _, rfl, h⟩
      · have h := h.2 c
        refine xG_bipush (v := 19) d_ED_change_82 rfl ?_
        refine xG_goto (tgt := 88) d_ED_change_84 (by decide) ?_
        exact xG_ireturn d_ED_change_88 rfl rfl ⟨rfl, hL2, _, rfl, h⟩
    · have h := h.2 c
      refine xG_aload_n d_ED_change_25 rfl rfl rfl ?_
      refine xG_getq d_ED_change_26 xf_ED_25 rfl s0_227 ?_
      refine xG_geti d_ED_change_29 xf_ED_43 (lp_227_1 hL) s0_245 ?_
      refine xG_if_ne (tgt := 37) d_ED_change_32 (by decide) (fun c => ?_) (fun c => ?_)
      · have h := h.1 c
        refine xG_aload_n d_ED_change_37 rfl rfl rfl ?_
        refine xG_aload_n d_ED_change_38 rfl rfl rfl ?_
        refine xG_getq d_ED_change_39 xf_ED_25 rfl s0_227 ?_
        obtain ⟨a3, e3, s3, h⟩ := h
        obtain ⟨Q4, hM, h⟩ := h
        refine xG_callv (as := [xq (P 227 1)]) (rest := []) d_ED_change_42 yv_VR_hasAny w3_159 rfl e3 rfl s3 (by decide) rfl hM ⟨by decide, by decide⟩ (Nat.le_of_ble_eq_true rfl) ⟨Nat.zero_le _, Nat.zero_le _⟩ (fun r S4 I4 J4 P4 hp => ?_)
        obtain ⟨rfl, hL4, z4, rfl, hq⟩ := hp
        have h := h z4 I4 J4 P4 hq
        refine xG_if_eq (tgt := 51) d_ED_change_45 (by decide) (fun c => ?_) (fun c => ?_)
        · have h := h.1 c
          refine xG_aload_n d_ED_change_51 rfl rfl rfl ?_
          refine xG_aload_n d_ED_change_52 rfl rfl rfl ?_
          refine xG_getq d_ED_change_53 xf_ED_25 rfl s0_227 ?_
          obtain ⟨Q5, hM, h⟩ := h
          refine xG_callv (as := [xq (P4 227 1)]) (rest := []) d_ED_change_56 yv_VR_addAll w3_163 rfl e3 rfl s3 (by decide) rfl hM ⟨by decide, by decide⟩ (Nat.le_of_ble_eq_true rfl) ⟨Nat.zero_le _, Nat.zero_le _⟩ (fun r S5 I5 J5 P5 hp => ?_)
          obtain ⟨rfl, hL5, rfl, hq⟩ := hp
          have h := h I5 J5 P5 hq
          refine xG_goto (tgt := 70) d_ED_change_59 (by decide) ?_
          refine xG_aload_n d_ED_change_70 rfl rfl rfl ?_
          refine xG_geti d_ED_change_71 xf_ED_43 e3 s3 ?_
          refine xG_gets2 (q := ("DirectorySession", "MOST_OF_TYPE", "[I")) (j := 1) (i := 2) d_ED_change_74 rfl rfl ?_
          refine xG_iload_n d_ED_change_77 rfl rfl ?_
          refine xG_ti d_ED_change_78 (by decide) rfl h.1 ?_
          have h := h.2
          refine xG_topi (x' := xs1 v2.toNatClampNeg) rfl ?_
          refine xG_icmp_le (tgt := 87) d_ED_change_79 (by decide) (fun c => ?_) (fun c => ?_)
          · have h := h.1 c
            refine xG_iconst (v := 0) d_ED_change_87 rfl ?_
            exact xG_ireturn d_ED_change_88 rfl rfl ⟨rfl, hL5, _, rfl, h⟩
          · have h := h.2 c
            refine xG_bipush (v := 19) d_ED_change_82 rfl ?_
            refine xG_goto (tgt := 88) d_ED_change_84 (by decide) ?_
            exact xG_ireturn d_ED_change_88 rfl rfl ⟨rfl, hL5, _, rfl, h⟩
        · have h := h.2 c
          refine xG_bipush (v := 20) d_ED_change_48 rfl ?_
          exact xG_ireturn d_ED_change_50 rfl rfl ⟨rfl, hL4, _, rfl, h⟩
      · have h := h.2 c
        refine xG_iconst (v := 2) d_ED_change_35 rfl ?_
        exact xG_ireturn d_ED_change_36 rfl rfl ⟨rfl, hL, _, rfl, h⟩
  · have h := h.2 c
    refine xG_aload_n d_ED_change_15 rfl rfl rfl ?_
    refine xG_aload_n d_ED_change_16 rfl rfl rfl ?_
    obtain ⟨Q6, hM, h⟩ := h
    refine xG_callv (as := [xq (P 229 v2.toNatClampNeg)]) (rest := []) d_ED_change_17 yv_ED_takeAway w3_145 rfl rfl rfl s0_227 (by decide) rfl hM ⟨by decide, by decide⟩ (Nat.le_of_ble_eq_true rfl) ⟨Nat.zero_le _, Nat.zero_le _⟩ (fun r S6 I6 J6 P6 hp => ?_)
    obtain ⟨rfl, hL6, z6, rfl, hq⟩ := hp
    have h := h z6 I6 J6 P6 hq
    exact xG_ireturn d_ED_change_20 rfl rfl ⟨rfl, hL6, _, rfl, h⟩
theorem e_ED_change {l : Launch} {V : xV} {Q : Int32 → xIt → xJt → xPt → Prop} {I : xIt} {J : xJt} {P : xPt} {v1 : Int32} {v2 : Int32} (h : G_ED_change l V Q 0 [(0, xq (some 227)), (1, xi v1), (2, xi v2)] [] I J P) : xMet l V y_ED_change 4 0 0 [xq (some 227), xi v1, xi v2] xS0 I J P (xPi Q) := xMet_of (by decide) (Nat.le_of_ble_eq_true rfl) h

abbrev G_ED_takeAway (l : Launch) (V : xV) (Q : Int32 → xIt → xJt → xPt → Prop) (pc : Nat) (lv : List (Nat × xX)) (st : List xX) (I : xIt) (J : xJt) (P : xPt) : Prop := xG l V y_ED_takeAway (xR 3 0 0) (xFn V y_ED_takeAway (xR 3 0 0) (xPi Q)) pc lv st xS0 I J P (0, 0)
set_option maxRecDepth 20000 in
theorem b_ED_takeAway_0 {l : Launch} {V : xV} {Q : Int32 → xIt → xJt → xPt → Prop} {I : xIt} {J : xJt} {P : xPt} (hL : xL P) {v1 : Option Nat} (h : (∃ a1 : Nat, v1 = some a1 ∧ xS0[a1]? = some (6, 0) ∧ (((I a1 2) = 0 → Q 16 I J P) ∧ (¬ (I a1 2) = 0 → (∃ Q2 : Int32 → xIt → xJt → xPt → Prop, xMet l V y_VR_hasAll 2 0 0 [xq (some a1), xq (P 227 1)] xS0 I J P (xPi Q2) ∧ ∀ (z2 : Int32) (I2 : xIt) (J2 : xJt) (P2 : xPt), Q2 z2 I2 J2 P2 → ((¬ z2 = 0 → ((¬ (I2 245 2) = 0 → (∃ Q3 : xIt → xJt → xPt → Prop, xMet l V y_VR_removeAll 2 0 0 [xq (some a1), xq (P2 227 1)] xS0 I2 J2 P2 (xPv Q3) ∧ ∀ (I3 : xIt) (J3 : xJt) (P3 : xPt), Q3 I3 J3 P3 → Q 0 I3 J3 P3)) ∧ ((I2 245 2) = 0 → (∃ Q4 : xIt → xJt → xPt → Prop, xMet l V y_VR_clear 1 0 0 [xq (some a1)] xS0 I2 J2 P2 (xPv Q4) ∧ ∀ (I4 : xIt) (J4 : xJt) (P4 : xPt), Q4 I4 J4 P4 → Q 0 I4 J4 P4)))) ∧ (z2 = 0 → Q 16 I2 J2 P2))))))) : G_ED_takeAway l V Q 0 [(0, xq (some 227)), (1, xq v1)] [] I J P := by
  refine xG_aload_n d_ED_takeAway_0 rfl rfl rfl ?_
  obtain ⟨a1, e1, s1, h⟩ := h
  refine xG_geti d_ED_takeAway_1 xf_ED_43 e1 s1 ?_
  refine xG_if_eq (tgt := 18) d_ED_takeAway_4 (by decide) (fun c => ?_) (fun c => ?_)
  · have h := h.1 c
    refine xG_bipush (v := 16) d_ED_takeAway_18 rfl ?_
    exact xG_ireturn d_ED_takeAway_20 rfl rfl ⟨rfl, hL, _, rfl, h⟩
  · have h := h.2 c
    refine xG_aload_n d_ED_takeAway_7 rfl rfl rfl ?_
    refine xG_aload_n d_ED_takeAway_8 rfl rfl rfl ?_
    refine xG_getq d_ED_takeAway_9 xf_ED_25 rfl s0_227 ?_
    obtain ⟨Q2, hM, h⟩ := h
    refine xG_callv (as := [xq (P 227 1)]) (rest := []) d_ED_takeAway_12 yv_VR_hasAll w3_149 rfl e1 rfl s1 (by decide) rfl hM ⟨by decide, by decide⟩ (Nat.le_of_ble_eq_true rfl) ⟨Nat.zero_le _, Nat.zero_le _⟩ (fun r S2 I2 J2 P2 hp => ?_)
    obtain ⟨rfl, hL2, z2, rfl, hq⟩ := hp
    have h := h z2 I2 J2 P2 hq
    refine xG_if_ne (tgt := 21) d_ED_takeAway_15 (by decide) (fun c => ?_) (fun c => ?_)
    · have h := h.1 c
      refine xG_aload_n d_ED_takeAway_21 rfl rfl rfl ?_
      refine xG_getq d_ED_takeAway_22 xf_ED_25 rfl s0_227 ?_
      refine xG_geti d_ED_takeAway_25 xf_ED_43 (lp_227_1 hL2) s0_245 ?_
      refine xG_if_ne (tgt := 38) d_ED_takeAway_28 (by decide) (fun c => ?_) (fun c => ?_)
      · have h := h.1 c
        refine xG_aload_n d_ED_takeAway_38 rfl rfl rfl ?_
        refine xG_aload_n d_ED_takeAway_39 rfl rfl rfl ?_
        refine xG_getq d_ED_takeAway_40 xf_ED_25 rfl s0_227 ?_
        obtain ⟨Q3, hM, h⟩ := h
        refine xG_callv (as := [xq (P2 227 1)]) (rest := []) d_ED_takeAway_43 yv_VR_removeAll w3_154 rfl e1 rfl s1 (by decide) rfl hM ⟨by decide, by decide⟩ (Nat.le_of_ble_eq_true rfl) ⟨Nat.zero_le _, Nat.zero_le _⟩ (fun r S3 I3 J3 P3 hp => ?_)
        obtain ⟨rfl, hL3, rfl, hq⟩ := hp
        have h := h I3 J3 P3 hq
        refine xG_iconst (v := 0) d_ED_takeAway_46 rfl ?_
        exact xG_ireturn d_ED_takeAway_47 rfl rfl ⟨rfl, hL3, _, rfl, h⟩
      · have h := h.2 c
        refine xG_aload_n d_ED_takeAway_31 rfl rfl rfl ?_
        obtain ⟨Q4, hM, h⟩ := h
        refine xG_callv (as := []) (rest := []) d_ED_takeAway_32 yv_VR_clear w3_140 rfl e1 rfl s1 (by decide) rfl hM ⟨by decide, by decide⟩ (Nat.le_of_ble_eq_true rfl) ⟨Nat.zero_le _, Nat.zero_le _⟩ (fun r S4 I4 J4 P4 hp => ?_)
        obtain ⟨rfl, hL4, rfl, hq⟩ := hp
        have h := h I4 J4 P4 hq
        refine xG_goto (tgt := 46) d_ED_takeAway_35 (by decide) ?_
        refine xG_iconst (v := 0) d_ED_takeAway_46 rfl ?_
        exact xG_ireturn d_ED_takeAway_47 rfl rfl ⟨rfl, hL4, _, rfl, h⟩
    · have h := h.2 c
      refine xG_bipush (v := 16) d_ED_takeAway_18 rfl ?_
      exact xG_ireturn d_ED_takeAway_20 rfl rfl ⟨rfl, hL2, _, rfl, h⟩
theorem e_ED_takeAway {l : Launch} {V : xV} {Q : Int32 → xIt → xJt → xPt → Prop} {I : xIt} {J : xJt} {P : xPt} {v1 : Option Nat} (h : G_ED_takeAway l V Q 0 [(0, xq (some 227)), (1, xq v1)] [] I J P) : xMet l V y_ED_takeAway 3 0 0 [xq (some 227), xq v1] xS0 I J P (xPi Q) := xMet_of (by decide) (Nat.le_of_ble_eq_true rfl) h

abbrev G_ED_rename (l : Launch) (V : xV) (Q : Int32 → xIt → xJt → xPt → Prop) (pc : Nat) (lv : List (Nat × xX)) (st : List xX) (I : xIt) (J : xJt) (P : xPt) : Prop := xG l V y_ED_rename (xR 4 0 0) (xFn V y_ED_rename (xR 4 0 0) (xPi Q)) pc lv st xS0 I J P (0, 0)
set_option maxRecDepth 20000 in
theorem b_ED_rename_0 {l : Launch} {V : xV} {Q : Int32 → xIt → xJt → xPt → Prop} {I : xIt} {J : xJt} {P : xPt} (hL : xL P) {v1 : Option Nat} {v2 : Option Nat} {v3 : Int32} {v4 : Option Nat} (h : ((¬ v1 = none → (∃ a1 : Nat, v2 = some a1 ∧ xS0[a1]? = some (3, 0) ∧ (∃ a2 : Nat, v1 = some a2 ∧ xS0[a2]? = some (5, 0) ∧ (∃ a3 : Nat, v4 = some a3 ∧ xS0[a3]? = some (4, 0) ∧ (∃ Q4 : Option Nat → xIt → xJt → xPt → Prop, xMet l V y_TR_childOf 2 0 0 [xq (some a3), xq (P a2 1), xi (I (a1 + 1) 0), xj (J (a1 + 3) 0)] xS0 I J P (xPq Q4) ∧ ∀ (z4 : Option Nat) (I4 : xIt) (J4 : xJt) (P4 : xPt), Q4 z4 I4 J4 P4 → ((z4 = none → G_ED_rename l V Q 52 [(0, xq (some 227)), (1, xq v1), (2, xq v2), (3, xi v3), (4, xq v4), (5, xi (I (a1 + 1) 0)), (6, xj (J (a1 + 3) 0)), (8, xq z4)] [] I4 J4 P4) ∧ (¬ z4 = none → ((z4 = v1 → G_ED_rename l V Q 52 [(0, xq (some 227)), (1, xq v1), (2, xq v2), (3, xi v3), (4, xq v4), (5, xi (I (a1 + 1) 0)), (6, xj (J (a1 + 3) 0)), (8, xq z4)] [] I4 J4 P4) ∧ (¬ z4 = v1 → Q 68 I4 J4 P4))))))))) ∧ (v1 = none → Q 32 I J P))) : G_ED_rename l V Q 0 [(0, xq (some 227)), (1, xq v1), (2, xq v2), (3, xi v3), (4, xq v4)] [] I J P := by
  refine xG_aload_n d_ED_rename_0 rfl rfl rfl ?_
  refine xG_ifnonnull (tgt := 7) d_ED_rename_1 (by decide) (fun c => ?_) (fun c => ?_)
  · have h := h.1 c
    refine xG_aload_n d_ED_rename_7 rfl rfl rfl ?_
    obtain ⟨a1, e1, s1, h⟩ := h
    refine xG_getq d_ED_rename_8 xf_ED_128 e1 s1 ?_
    refine xG_iconst (v := 0) d_ED_rename_11 rfl ?_
    refine xG_iald d_ED_rename_12 (lo_3_0 hL s1) (so_3_0 s1) (x_vp (by decide)) ?_
    refine xG_topi (x' := I (a1 + 1) 0) (by first | rfl | exact xu_at | simp [xu]) ?_
    refine xG_istore (lv' := [(5, xi (I (a1 + 1) 0)), (0, xq (some 227)), (1, xq v1), (2, xq v2), (3, xi v3), (4, xq v4)]) d_ED_rename_13 (Nat.le_of_ble_eq_true rfl) rfl ?_
    refine xG_aload_n d_ED_rename_15 rfl rfl rfl ?_
    refine xG_getq d_ED_rename_16 xf_ED_131 e1 s1 ?_
    refine xG_iconst (v := 0) d_ED_rename_19 rfl ?_
    refine xG_lald d_ED_rename_20 (lo_3_2 hL s1) (so_3_2 s1) (x_vp (by decide)) ?_
    refine xG_topj (x' := J (a1 + 3) 0) (by first | rfl | exact xu_at | simp [xu]) ?_
    refine xG_lstore (lv' := [(6, xj (J (a1 + 3) 0)), (5, xi (I (a1 + 1) 0)), (0, xq (some 227)), (1, xq v1), (2, xq v2), (3, xi v3), (4, xq v4)]) d_ED_rename_21 (Nat.le_of_ble_eq_true rfl) rfl ?_
    refine xG_aload d_ED_rename_23 rfl rfl ?_
    refine xG_aload_n d_ED_rename_25 rfl rfl rfl ?_
    obtain ⟨a2, e2, s2, h⟩ := h
    refine xG_getq d_ED_rename_26 xf_ED_72 e2 s2 ?_
    refine xG_iload d_ED_rename_29 rfl ?_
    refine xG_lload d_ED_rename_31 rfl ?_
    obtain ⟨a3, e3, s3, h⟩ := h
    obtain ⟨Q4, hM, h⟩ := h
    refine xG_callv (as := [xq (P a2 1), xi (I (a1 + 1) 0), xj (J (a1 + 3) 0)]) (rest := []) d_ED_rename_33 yv_TR_childOf w3_129 rfl e3 rfl s3 (by decide) rfl hM ⟨by decide, by decide⟩ (Nat.le_of_ble_eq_true rfl) ⟨Nat.zero_le _, Nat.zero_le _⟩ (fun r S4 I4 J4 P4 hp => ?_)
    obtain ⟨rfl, hL4, z4, rfl, hq⟩ := hp
    have h := h z4 I4 J4 P4 hq
    refine xG_astore (lv' := [(8, xq z4), (6, xj (J (a1 + 3) 0)), (5, xi (I (a1 + 1) 0)), (0, xq (some 227)), (1, xq v1), (2, xq v2), (3, xi v3), (4, xq v4)]) d_ED_rename_36 (Nat.le_of_ble_eq_true rfl) rfl rfl ?_
    refine xG_aload d_ED_rename_38 rfl rfl ?_
    refine xG_ifnull (tgt := 52) d_ED_rename_40 (by decide) (fun c => ?_) (fun c => ?_)
    · have h := h.1 c
      refine xG_pick [3, 4, 5, 6, 7, 2, 1, 0] rfl ?_
      exact h
    · have h := h.2 c
      refine xG_aload d_ED_rename_43 rfl rfl ?_
      refine xG_aload_n d_ED_rename_45 rfl rfl rfl ?_
      refine xG_acmp_eq (tgt := 52) d_ED_rename_46 (by decide) (fun c => ?_) (fun c => ?_)
      · have h := h.1 c
        refine xG_pick [3, 4, 5, 6, 7, 2, 1, 0] rfl ?_
        exact h
      · have h := h.2 c
        refine xG_bipush (v := 68) d_ED_rename_49 rfl ?_
        exact xG_ireturn d_ED_rename_51 rfl rfl ⟨rfl, hL4, _, rfl, h⟩
  · have h := h.2 c
    refine xG_bipush (v := 32) d_ED_rename_4 rfl ?_
    exact xG_ireturn d_ED_rename_6 rfl rfl ⟨rfl, hL, _, rfl, h⟩
set_option maxRecDepth 20000 in
theorem b_ED_rename_52 {l : Launch} {V : xV} {Q : Int32 → xIt → xJt → xPt → Prop} {I : xIt} {J : xJt} {P : xPt} (hL : xL P) {v1 : Option Nat} {v2 : Option Nat} {v3 : Int32} {v4 : Option Nat} {v5 : Int32} {v6 : Int64} {v8 : Option Nat} (h : (∃ Q1 : xIt → xJt → xPt → Prop, xMet l V y_EN_copy 3 0 0 [xq (some 228), xq v1] xS0 I J P (xPv Q1) ∧ ∀ (I1 : xIt) (J1 : xJt) (P1 : xPt), Q1 I1 J1 P1 → ((v3 = 0 → G_ED_rename l V Q 94 [(0, xq (some 227)), (1, xq v1), (2, xq v2), (3, xi v3), (4, xq v4), (5, xi v5), (6, xj v6), (8, xq v8)] [] I1 J1 P1) ∧ (¬ v3 = 0 → (∃ a2 : Nat, v1 = some a2 ∧ xS0[a2]? = some (5, 0) ∧ (∃ Q3 : Int32 → xIt → xJt → xPt → Prop, xMet l V y_EN_isNamed 1 0 0 [xq (some a2), xi v5, xj v6] xS0 I1 J1 P1 (xPi Q3) ∧ ∀ (z3 : Int32) (I3 : xIt) (J3 : xJt) (P3 : xPt), Q3 z3 I3 J3 P3 → ((¬ z3 = 0 → G_ED_rename l V Q 94 [(0, xq (some 227)), (1, xq v1), (2, xq v2), (3, xi v3), (4, xq v4), (5, xi v5), (6, xj v6), (8, xq v8)] [] I3 J3 P3) ∧ (z3 = 0 → (vp_in (I3 a2 2) 5 ∧ (∃ a4 : Nat, P3 229 ((I3 a2 2).toNatClampNeg) = some a4 ∧ xS0[a4]? = some (6, 0) ∧ (∃ Q5 : xIt → xJt → xPt → Prop, xMet l V y_VR_remove 1 0 0 [xq (some a4), xj (J3 a2 3)] xS0 I3 J3 P3 (xPv Q5) ∧ ∀ (I5 : xIt) (J5 : xJt) (P5 : xPt), Q5 I5 J5 P5 → G_ED_rename l V Q 94 [(0, xq (some 227)), (1, xq v1), (2, xq v2), (3, xi v3), (4, xq v4), (5, xi v5), (6, xj v6), (8, xq v8)] [] I5 J5 P5))))))))))) : G_ED_rename l V Q 52 [(0, xq (some 227)), (1, xq v1), (2, xq v2), (3, xi v3), (4, xq v4), (5, xi v5), (6, xj v6), (8, xq v8)] [] I J P := by
  refine xG_aload_n d_ED_rename_52 rfl rfl rfl ?_
  refine xG_getq d_ED_rename_53 xf_ED_16 rfl s0_227 ?_
  refine xG_aload_n d_ED_rename_56 rfl rfl rfl ?_
  obtain ⟨Q1, hM, h⟩ := h
  refine xG_callv (as := [xq v1]) (rest := []) d_ED_rename_57 yv_EN_copy w3_130 rfl (lp_227_0 hL) rfl s0_228 (by decide) rfl hM ⟨by decide, by decide⟩ (Nat.le_of_ble_eq_true rfl) ⟨Nat.zero_le _, Nat.zero_le _⟩ (fun r S1 I1 J1 P1 hp => ?_)
  obtain ⟨rfl, hL1, rfl, hq⟩ := hp
  have h := h I1 J1 P1 hq
  refine xG_iload_n d_ED_rename_60 rfl rfl ?_
  refine xG_if_eq (tgt := 94) d_ED_rename_61 (by decide) (fun c => ?_) (fun c => ?_)
  · have h := h.1 c
    exact h
  · have h := h.2 c
    refine xG_aload_n d_ED_rename_64 rfl rfl rfl ?_
    refine xG_iload d_ED_rename_65 rfl ?_
    refine xG_lload d_ED_rename_67 rfl ?_
    obtain ⟨a2, e2, s2, h⟩ := h
    obtain ⟨Q3, hM, h⟩ := h
    refine xG_callv (as := [xi v5, xj v6]) (rest := []) d_ED_rename_69 yv_EN_isNamed w3_131 rfl e2 rfl s2 (by decide) rfl hM ⟨by decide, by decide⟩ (Nat.le_of_ble_eq_true rfl) ⟨Nat.zero_le _, Nat.zero_le _⟩ (fun r S3 I3 J3 P3 hp => ?_)
    obtain ⟨rfl, hL3, z3, rfl, hq⟩ := hp
    have h := h z3 I3 J3 P3 hq
    refine xG_if_ne (tgt := 94) d_ED_rename_72 (by decide) (fun c => ?_) (fun c => ?_)
    · have h := h.1 c
      exact h
    · have h := h.2 c
      refine xG_aload_n d_ED_rename_75 rfl rfl rfl ?_
      refine xG_getq d_ED_rename_76 xf_ED_16 rfl s0_227 ?_
      refine xG_getq d_ED_rename_79 xf_ED_40 (lp_227_0 hL3) s0_228 ?_
      refine xG_aload_n d_ED_rename_82 rfl rfl rfl ?_
      refine xG_geti d_ED_rename_83 xf_ED_143 e2 s2 ?_
      refine xG_aald (t := 0) d_ED_rename_86 (lp_228_0 hL3) s0_229 rfl h.1 ?_
      have h := h.2
      refine xG_topq (x' := P3 229 ((I3 a2 2).toNatClampNeg)) (by first | rfl | exact xu_at | simp [xu]) ?_
      refine xG_aload_n d_ED_rename_87 rfl rfl rfl ?_
      refine xG_getj d_ED_rename_88 xf_ED_146 e2 s2 ?_
      obtain ⟨a4, e4, s4, h⟩ := h
      obtain ⟨Q5, hM, h⟩ := h
      refine xG_callv (as := [xj (J3 a2 3)]) (rest := []) d_ED_rename_91 yv_VR_remove w3_132 rfl e4 rfl s4 (by decide) rfl hM ⟨by decide, by decide⟩ (Nat.le_of_ble_eq_true rfl) ⟨Nat.zero_le _, Nat.zero_le _⟩ (fun r S5 I5 J5 P5 hp => ?_)
      obtain ⟨rfl, hL5, rfl, hq⟩ := hp
      have h := h I5 J5 P5 hq
      exact h
set_option maxRecDepth 20000 in
theorem b_ED_rename_94 {l : Launch} {V : xV} {Q : Int32 → xIt → xJt → xPt → Prop} {I : xIt} {J : xJt} {P : xPt} (hL : xL P) {v1 : Option Nat} {v2 : Option Nat} {v3 : Int32} {v4 : Option Nat} {v5 : Int32} {v6 : Int64} {v8 : Option Nat} (h : (vp_in v5 5 ∧ (∃ a1 : Nat, P 229 v5.toNatClampNeg = some a1 ∧ xS0[a1]? = some (6, 0) ∧ (∃ Q2 : Int32 → xIt → xJt → xPt → Prop, xMet l V y_VR_has 1 0 0 [xq (some a1), xj v6] xS0 I J P (xPi Q2) ∧ ∀ (z2 : Int32) (I2 : xIt) (J2 : xJt) (P2 : xPt), Q2 z2 I2 J2 P2 → ((¬ z2 = 0 → G_ED_rename l V Q 129 [(0, xq (some 227)), (1, xq v1), (2, xq v2), (3, xi v3), (4, xq v4), (5, xi v5), (6, xj v6), (8, xq v8), (9, xq (P 229 v5.toNatClampNeg))] [] I2 J2 P2) ∧ (z2 = 0 → (∃ a3 : Nat, v2 = some a3 ∧ xS0[a3]? = some (3, 0) ∧ (∃ Q4 : xIt → xJt → xPt → Prop, xMet l V y_VR_add 1 0 0 [xq (some a1), xj (J2 (a3 + 2) 0), xj v6] xS0 I2 J2 P2 (xPv Q4) ∧ ∀ (I4 : xIt) (J4 : xJt) (P4 : xPt), Q4 I4 J4 P4 → G_ED_rename l V Q 129 [(0, xq (some 227)), (1, xq v1), (2, xq v2), (3, xi v3), (4, xq v4), (5, xi v5), (6, xj v6), (8, xq v8), (9, xq (P 229 v5.toNatClampNeg))] [] I4 J4 P4)))))))) : G_ED_rename l V Q 94 [(0, xq (some 227)), (1, xq v1), (2, xq v2), (3, xi v3), (4, xq v4), (5, xi v5), (6, xj v6), (8, xq v8)] [] I J P := by
  refine xG_aload_n d_ED_rename_94 rfl rfl rfl ?_
  refine xG_getq d_ED_rename_95 xf_ED_16 rfl s0_227 ?_
  refine xG_getq d_ED_rename_98 xf_ED_40 (lp_227_0 hL) s0_228 ?_
  refine xG_iload d_ED_rename_101 rfl ?_
  refine xG_aald (t := 0) d_ED_rename_103 (lp_228_0 hL) s0_229 rfl h.1 ?_
  have h := h.2
  refine xG_astore (lv' := [(9, xq (P 229 v5.toNatClampNeg)), (0, xq (some 227)), (1, xq v1), (2, xq v2), (3, xi v3), (4, xq v4), (5, xi v5), (6, xj v6), (8, xq v8)]) d_ED_rename_104 (Nat.le_of_ble_eq_true rfl) rfl rfl ?_
  refine xG_aload d_ED_rename_106 rfl rfl ?_
  refine xG_lload d_ED_rename_108 rfl ?_
  obtain ⟨a1, e1, s1, h⟩ := h
  obtain ⟨Q2, hM, h⟩ := h
  refine xG_callv (as := [xj v6]) (rest := []) d_ED_rename_110 yv_VR_has w3_77 rfl e1 rfl s1 (by decide) rfl hM ⟨by decide, by decide⟩ (Nat.le_of_ble_eq_true rfl) ⟨Nat.zero_le _, Nat.zero_le _⟩ (fun r S2 I2 J2 P2 hp => ?_)
  obtain ⟨rfl, hL2, z2, rfl, hq⟩ := hp
  have h := h z2 I2 J2 P2 hq
  refine xG_if_ne (tgt := 129) d_ED_rename_113 (by decide) (fun c => ?_) (fun c => ?_)
  · have h := h.1 c
    refine xG_pick [1, 2, 3, 4, 5, 6, 7, 8, 0] rfl ?_
    exact h
  · have h := h.2 c
    refine xG_aload d_ED_rename_116 rfl rfl ?_
    refine xG_aload_n d_ED_rename_118 rfl rfl rfl ?_
    obtain ⟨a3, e3, s3, h⟩ := h
    refine xG_getq d_ED_rename_119 xf_ED_158 e3 s3 ?_
    refine xG_iconst (v := 0) d_ED_rename_122 rfl ?_
    refine xG_lald d_ED_rename_123 (lo_3_1 hL2 s3) (so_3_1 s3) (x_vp (by decide)) ?_
    refine xG_topj (x' := J2 (a3 + 2) 0) (by first | rfl | exact xu_at | simp [xu]) ?_
    refine xG_lload d_ED_rename_124 rfl ?_
    obtain ⟨Q4, hM, h⟩ := h
    refine xG_callv (as := [xj (J2 (a3 + 2) 0), xj v6]) (rest := []) d_ED_rename_126 yv_VR_add w3_78 rfl e1 rfl s1 (by decide) rfl hM ⟨by decide, by decide⟩ (Nat.le_of_ble_eq_true rfl) ⟨Nat.zero_le _, Nat.zero_le _⟩ (fun r S4 I4 J4 P4 hp => ?_)
    obtain ⟨rfl, hL4, rfl, hq⟩ := hp
    have h := h I4 J4 P4 hq
    refine xG_pick [1, 2, 3, 4, 5, 6, 7, 8, 0] rfl ?_
    exact h
set_option maxRecDepth 20000 in
theorem b_ED_rename_129 {l : Launch} {V : xV} {Q : Int32 → xIt → xJt → xPt → Prop} {I : xIt} {J : xJt} {P : xPt} (hL : xL P) {v1 : Option Nat} {v2 : Option Nat} {v3 : Int32} {v4 : Option Nat} {v5 : Int32} {v6 : Int64} {v8 : Option Nat} {v9 : Option Nat} (h : (∃ a1 : Nat, v9 = some a1 ∧ xS0[a1]? = some (6, 0) ∧ (vp_in v5 5 ∧ (((I a1 2) ≤ (xs1 v5.toNatClampNeg) → (∃ Q2 : Int32 → xIt → xJt → xPt → Prop, xMet l V y_EN_fitsSchema 3 0 0 [xq (some 228)] xS0 I J P (xPi Q2) ∧ ∀ (z2 : Int32) (I2 : xIt) (J2 : xJt) (P2 : xPt), Q2 z2 I2 J2 P2 → ((¬ z2 = 0 → (∃ Q3 : xIt → xJt → xPt → Prop, xMet l V y_EN_takeNamePart 1 0 0 [xq (some 228), xq v2] xS0 I2 J2 P2 (xPv Q3) ∧ ∀ (I3 : xIt) (J3 : xJt) (P3 : xPt), Q3 I3 J3 P3 → (∃ a4 : Nat, v1 = some a4 ∧ xS0[a4]? = some (5, 0) ∧ (∃ Q5 : xIt → xJt → xPt → Prop, xMet l V y_EN_copy 3 0 0 [xq (some a4), xq (P3 227 0)] xS0 I3 J3 P3 (xPv Q5) ∧ ∀ (I5 : xIt) (J5 : xJt) (P5 : xPt), Q5 I5 J5 P5 → Q 0 I5 J5 P5)))) ∧ (z2 = 0 → Q 65 I2 J2 P2)))) ∧ (¬ (I a1 2) ≤ (xs1 v5.toNatClampNeg) → Q 19 I J P))))) : G_ED_rename l V Q 129 [(0, xq (some 227)), (1, xq v1), (2, xq v2), (3, xi v3), (4, xq v4), (5, xi v5), (6, xj v6), (8, xq v8), (9, xq v9)] [] I J P := by
  refine xG_aload d_ED_rename_129 rfl rfl ?_
  obtain ⟨a1, e1, s1, h⟩ := h
  refine xG_geti d_ED_rename_131 xf_ED_43 e1 s1 ?_
  refine xG_gets2 (q := ("DirectorySession", "MOST_OF_TYPE", "[I")) (j := 1) (i := 2) d_ED_rename_134 rfl rfl ?_
  refine xG_iload d_ED_rename_137 rfl ?_
  refine xG_ti d_ED_rename_139 (by decide) rfl h.1 ?_
  have h := h.2
  refine xG_topi (x' := xs1 v5.toNatClampNeg) rfl ?_
  refine xG_icmp_le (tgt := 146) d_ED_rename_140 (by decide) (fun c => ?_) (fun c => ?_)
  · have h := h.1 c
    refine xG_aload_n d_ED_rename_146 rfl rfl rfl ?_
    refine xG_getq d_ED_rename_147 xf_ED_16 rfl s0_227 ?_
    obtain ⟨Q2, hM, h⟩ := h
    refine xG_callv (as := []) (rest := []) d_ED_rename_150 yv_EN_fitsSchema w3_97 rfl (lp_227_0 hL) rfl s0_228 (by decide) rfl hM ⟨by decide, by decide⟩ (Nat.le_of_ble_eq_true rfl) ⟨Nat.zero_le _, Nat.zero_le _⟩ (fun r S2 I2 J2 P2 hp => ?_)
    obtain ⟨rfl, hL2, z2, rfl, hq⟩ := hp
    have h := h z2 I2 J2 P2 hq
    refine xG_if_ne (tgt := 159) d_ED_rename_153 (by decide) (fun c => ?_) (fun c => ?_)
    · have h := h.1 c
      refine xG_aload_n d_ED_rename_159 rfl rfl rfl ?_
      refine xG_getq d_ED_rename_160 xf_ED_16 rfl s0_227 ?_
      refine xG_aload_n d_ED_rename_163 rfl rfl rfl ?_
      obtain ⟨Q3, hM, h⟩ := h
      refine xG_callv (as := [xq v2]) (rest := []) d_ED_rename_164 yv_EN_takeNamePart w3_89 rfl (lp_227_0 hL2) rfl s0_228 (by decide) rfl hM ⟨by decide, by decide⟩ (Nat.le_of_ble_eq_true rfl) ⟨Nat.zero_le _, Nat.zero_le _⟩ (fun r S3 I3 J3 P3 hp => ?_)
      obtain ⟨rfl, hL3, rfl, hq⟩ := hp
      have h := h I3 J3 P3 hq
      refine xG_aload_n d_ED_rename_167 rfl rfl rfl ?_
      refine xG_aload_n d_ED_rename_168 rfl rfl rfl ?_
      refine xG_getq d_ED_rename_169 xf_ED_16 rfl s0_227 ?_
      obtain ⟨a4, e4, s4, h⟩ := h
      obtain ⟨Q5, hM, h⟩ := h
      refine xG_callv (as := [xq (P3 227 0)]) (rest := []) d_ED_rename_172 yv_EN_copy w3_130 rfl e4 rfl s4 (by decide) rfl hM ⟨by decide, by decide⟩ (Nat.le_of_ble_eq_true rfl) ⟨Nat.zero_le _, Nat.zero_le _⟩ (fun r S5 I5 J5 P5 hp => ?_)
      obtain ⟨rfl, hL5, rfl, hq⟩ := hp
      have h := h I5 J5 P5 hq
      refine xG_iconst (v := 0) d_ED_rename_175 rfl ?_
      exact xG_ireturn d_ED_rename_176 rfl rfl ⟨rfl, hL5, _, rfl, h⟩
    · have h := h.2 c
      refine xG_bipush (v := 65) d_ED_rename_156 rfl ?_
      exact xG_ireturn d_ED_rename_158 rfl rfl ⟨rfl, hL2, _, rfl, h⟩
  · have h := h.2 c
    refine xG_bipush (v := 19) d_ED_rename_143 rfl ?_
    exact xG_ireturn d_ED_rename_145 rfl rfl ⟨rfl, hL, _, rfl, h⟩
theorem e_ED_rename {l : Launch} {V : xV} {Q : Int32 → xIt → xJt → xPt → Prop} {I : xIt} {J : xJt} {P : xPt} {v1 : Option Nat} {v2 : Option Nat} {v3 : Int32} {v4 : Option Nat} (h : G_ED_rename l V Q 0 [(0, xq (some 227)), (1, xq v1), (2, xq v2), (3, xi v3), (4, xq v4)] [] I J P) : xMet l V y_ED_rename 4 0 0 [xq (some 227), xq v1, xq v2, xi v3, xq v4] xS0 I J P (xPi Q) := xMet_of (by decide) (Nat.le_of_ble_eq_true rfl) h

abbrev G_ED_readValues (l : Launch) (V : xV) (Q : Int32 → xIt → xJt → xPt → Prop) (pc : Nat) (lv : List (Nat × xX)) (st : List xX) (I : xIt) (J : xJt) (P : xPt) : Prop := xG l V y_ED_readValues (xR 4 0 0) (xFn V y_ED_readValues (xR 4 0 0) (xPi Q)) pc lv st xS0 I J P (0, 0)
set_option maxRecDepth 20000 in
theorem b_ED_readValues_0 {l : Launch} {V : xV} {Q : Int32 → xIt → xJt → xPt → Prop} {I : xIt} {J : xJt} {P : xPt} (hL : xL P) {v1 : Option Nat} {v2 : Int32} {v3 : Int32} {v4 : Int32} {v5 : Option Nat} (h : G_ED_readValues l V Q 3 [(0, xq (some 227)), (1, xq v1), (2, xi v2), (3, xi v3), (4, xi v4), (5, xq v5), (6, xi v3)] [] I J P) : G_ED_readValues l V Q 0 [(0, xq (some 227)), (1, xq v1), (2, xi v2), (3, xi v3), (4, xi v4), (5, xq v5)] [] I J P := by
  refine xG_iload_n d_ED_readValues_0 rfl rfl ?_
  refine xG_istore (lv' := [(6, xi v3), (0, xq (some 227)), (1, xq v1), (2, xi v2), (3, xi v3), (4, xi v4), (5, xq v5)]) d_ED_readValues_1 (Nat.le_of_ble_eq_true rfl) rfl ?_
  refine xG_pick [1, 2, 3, 4, 5, 6, 0] rfl ?_
  exact h
set_option maxRecDepth 20000 in
theorem b_ED_readValues_3 {l : Launch} {V : xV} {Q : Int32 → xIt → xJt → xPt → Prop} {I : xIt} {J : xJt} {P : xPt} (hL : xL P) {v1 : Option Nat} {v2 : Int32} {v3 : Int32} {v4 : Int32} {v5 : Option Nat} {v6 : Int32} (h : (((v3 + v4) ≤ v6 → Q 0 I J P) ∧ (¬ (v3 + v4) ≤ v6 → (∃ a1 : Nat, v1 = some a1 ∧ xS0[a1]? = some (1, 0) ∧ (∃ Q2 : Int64 → xIt → xJt → xPt → Prop, xMet l V y_RQ_packed 3 0 0 [xq (some a1), xi v6] xS0 I J P (xPl Q2) ∧ ∀ (z2 : Int64) (I2 : xIt) (J2 : xJt) (P2 : xPt), Q2 z2 I2 J2 P2 → (∃ Q3 : Int64 → xIt → xJt → xPt → Prop, xMet l V y_SX_plainOf 3 0 0 [xi v2, xj z2] xS0 I2 J2 P2 (xPl Q3) ∧ ∀ (z3 : Int64) (I3 : xIt) (J3 : xJt) (P3 : xPt), Q3 z3 I3 J3 P3 → ((¬ (lg_cmp z3 (-1)) = 0 → (∃ a4 : Nat, v5 = some a4 ∧ xS0[a4]? = some (6, 0) ∧ (∃ Q5 : Int32 → xIt → xJt → xPt → Prop, xMet l V y_VR_has 1 0 0 [xq (some a4), xj z3] xS0 I3 J3 P3 (xPi Q5) ∧ ∀ (z5 : Int32) (I5 : xIt) (J5 : xJt) (P5 : xPt), Q5 z5 I5 J5 P5 → ((z5 = 0 → (∃ Q6 : xIt → xJt → xPt → Prop, xMet l V y_VR_add 1 0 0 [xq (some a4), xj z2, xj z3] xS0 I5 J5 P5 (xPv Q6) ∧ ∀ (I6 : xIt) (J6 : xJt) (P6 : xPt), Q6 I6 J6 P6 → G_ED_readValues l V Q 3 [(0, xq (some 227)), (1, xq v1), (2, xi v2), (3, xi v3), (4, xi v4), (5, xq v5), (6, xi (v6 + 1))] [] I6 J6 P6)) ∧ (¬ z5 = 0 → Q 20 I5 J5 P5))))) ∧ ((lg_cmp z3 (-1)) = 0 → Q 21 I3 J3 P3)))))))) : G_ED_readValues l V Q 3 [(0, xq (some 227)), (1, xq v1), (2, xi v2), (3, xi v3), (4, xi v4), (5, xq v5), (6, xi v6)] [] I J P := by
  refine xG_iload d_ED_readValues_3 rfl ?_
  refine xG_iload_n d_ED_readValues_5 rfl rfl ?_
  refine xG_iload d_ED_readValues_6 rfl ?_
  refine xG_iadd d_ED_readValues_8 ?_
  refine xG_icmp_ge (tgt := 68) d_ED_readValues_9 (by decide) (fun c => ?_) (fun c => ?_)
  · have h := h.1 c
    refine xG_iconst (v := 0) d_ED_readValues_68 rfl ?_
    exact xG_ireturn d_ED_readValues_69 rfl rfl ⟨rfl, hL, _, rfl, h⟩
  · have h := h.2 c
    refine xG_aload_n d_ED_readValues_12 rfl rfl rfl ?_
    refine xG_iload d_ED_readValues_13 rfl ?_
    obtain ⟨a1, e1, s1, h⟩ := h
    obtain ⟨Q2, hM, h⟩ := h
    refine xG_callv (as := [xi v6]) (rest := []) d_ED_readValues_15 yv_RQ_packed w3_74 rfl e1 rfl s1 (by decide) rfl hM ⟨by decide, by decide⟩ (Nat.le_of_ble_eq_true rfl) ⟨Nat.zero_le _, Nat.zero_le _⟩ (fun r S2 I2 J2 P2 hp => ?_)
    obtain ⟨rfl, hL2, z2, rfl, hq⟩ := hp
    have h := h z2 I2 J2 P2 hq
    refine xG_lstore (lv' := [(7, xj z2), (0, xq (some 227)), (1, xq v1), (2, xi v2), (3, xi v3), (4, xi v4), (5, xq v5), (6, xi v6)]) d_ED_readValues_18 (Nat.le_of_ble_eq_true rfl) rfl ?_
    refine xG_iload_n d_ED_readValues_20 rfl rfl ?_
    refine xG_lload d_ED_readValues_21 rfl ?_
    obtain ⟨Q3, hM, h⟩ := h
    refine xG_calls (as := [xi v2, xj z2]) (rest := []) d_ED_readValues_23 ys_SX_plainOf w3_75 rfl rfl hM ⟨by decide, by decide⟩ (Nat.le_of_ble_eq_true rfl) ⟨Nat.zero_le _, Nat.zero_le _⟩ (fun r S3 I3 J3 P3 hp => ?_)
    obtain ⟨rfl, hL3, z3, rfl, hq⟩ := hp
    have h := h z3 I3 J3 P3 hq
    refine xG_lstore (lv' := [(9, xj z3), (7, xj z2), (0, xq (some 227)), (1, xq v1), (2, xi v2), (3, xi v3), (4, xi v4), (5, xq v5), (6, xi v6)]) d_ED_readValues_26 (Nat.le_of_ble_eq_true rfl) rfl ?_
    refine xG_lload d_ED_readValues_28 rfl ?_
    refine xG_ldc2 (v := (-1)) d_ED_readValues_30 w3_76 ?_
    refine xG_lcmp d_ED_readValues_33 ?_
    refine xG_if_ne (tgt := 40) d_ED_readValues_34 (by decide) (fun c => ?_) (fun c => ?_)
    · have h := h.1 c
      refine xG_aload d_ED_readValues_40 rfl rfl ?_
      refine xG_lload d_ED_readValues_42 rfl ?_
      obtain ⟨a4, e4, s4, h⟩ := h
      obtain ⟨Q5, hM, h⟩ := h
      refine xG_callv (as := [xj z3]) (rest := []) d_ED_readValues_44 yv_VR_has w3_77 rfl e4 rfl s4 (by decide) rfl hM ⟨by decide, by decide⟩ (Nat.le_of_ble_eq_true rfl) ⟨Nat.zero_le _, Nat.zero_le _⟩ (fun r S5 I5 J5 P5 hp => ?_)
      obtain ⟨rfl, hL5, z5, rfl, hq⟩ := hp
      have h := h z5 I5 J5 P5 hq
      refine xG_if_eq (tgt := 53) d_ED_readValues_47 (by decide) (fun c => ?_) (fun c => ?_)
      · have h := h.1 c
        refine xG_aload d_ED_readValues_53 rfl rfl ?_
        refine xG_lload d_ED_readValues_55 rfl ?_
        refine xG_lload d_ED_readValues_57 rfl ?_
        obtain ⟨Q6, hM, h⟩ := h
        refine xG_callv (as := [xj z2, xj z3]) (rest := []) d_ED_readValues_59 yv_VR_add w3_78 rfl e4 rfl s4 (by decide) rfl hM ⟨by decide, by decide⟩ (Nat.le_of_ble_eq_true rfl) ⟨Nat.zero_le _, Nat.zero_le _⟩ (fun r S6 I6 J6 P6 hp => ?_)
        obtain ⟨rfl, hL6, rfl, hq⟩ := hp
        have h := h I6 J6 P6 hq
        refine xG_iinc (v := v6 + 1) (lv' := [(6, xi (v6 + 1)), (9, xj z3), (7, xj z2), (0, xq (some 227)), (1, xq v1), (2, xi v2), (3, xi v3), (4, xi v4), (5, xq v5)]) d_ED_readValues_62 rfl rfl (Nat.le_of_ble_eq_true rfl) rfl ?_
        refine xG_goto (tgt := 3) d_ED_readValues_65 (by decide) ?_
        refine xG_pick [3, 4, 5, 6, 7, 8, 0] rfl ?_
        exact h
      · have h := h.2 c
        refine xG_bipush (v := 20) d_ED_readValues_50 rfl ?_
        exact xG_ireturn d_ED_readValues_52 rfl rfl ⟨rfl, hL5, _, rfl, h⟩
    · have h := h.2 c
      refine xG_bipush (v := 21) d_ED_readValues_37 rfl ?_
      exact xG_ireturn d_ED_readValues_39 rfl rfl ⟨rfl, hL3, _, rfl, h⟩
theorem e_ED_readValues {l : Launch} {V : xV} {Q : Int32 → xIt → xJt → xPt → Prop} {I : xIt} {J : xJt} {P : xPt} {v1 : Option Nat} {v2 : Int32} {v3 : Int32} {v4 : Int32} {v5 : Option Nat} (h : G_ED_readValues l V Q 0 [(0, xq (some 227)), (1, xq v1), (2, xi v2), (3, xi v3), (4, xi v4), (5, xq v5)] [] I J P) : xMet l V y_ED_readValues 4 0 0 [xq (some 227), xq v1, xi v2, xi v3, xi v4, xq v5] xS0 I J P (xPi Q) := xMet_of (by decide) (Nat.le_of_ble_eq_true rfl) h

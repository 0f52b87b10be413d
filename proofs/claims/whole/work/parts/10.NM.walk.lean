abbrev G_NM_read (l : Launch) (V : xV) (Q : Int32 → xIt → xJt → xPt → Prop) (pc : Nat) (lv : List (Nat × xX)) (st : List xX) (I : xIt) (J : xJt) (P : xPt) : Prop := xG l V y_NM_read (xR 5 0 0) (xFn V y_NM_read (xR 5 0 0) (xPi Q)) pc lv st xS0 I J P (0, 0)
set_option maxRecDepth 20000 in
theorem b_NM_read_0 {l : Launch} {V : xV} {Q : Int32 → xIt → xJt → xPt → Prop} {I : xIt} {J : xJt} {P : xPt} (hL : xL P) {v0 : Nat} (hs0 : xS0[v0]? = some (3, 0)) {v1 : Option Nat} {v2 : Int32} (h : (∃ a1 : Nat, v1 = some a1 ∧ xS0[a1]? = some (1, 0) ∧ (vp_in v2 75 ∧ (vp_in v2 75 ∧ ((¬ ((xu I v0 3 0) (a1 + 2) v2.toNatClampNeg) = ((xu I v0 3 0) (a1 + 3) v2.toNatClampNeg) → G_NM_read l V Q 31 [(0, xq (some v0)), (1, xq v1), (2, xi v2), (3, xi ((xu I v0 3 0) (a1 + 2) v2.toNatClampNeg)), (4, xi ((xu I v0 3 0) (a1 + 3) v2.toNatClampNeg)), (5, xi 0)] [] (xu I v0 3 0) J P) ∧ (((xu I v0 3 0) (a1 + 2) v2.toNatClampNeg) = ((xu I v0 3 0) (a1 + 3) v2.toNatClampNeg) → Q 1 (xu I v0 3 0) J P)))))) : G_NM_read l V Q 0 [(0, xq (some v0)), (1, xq v1), (2, xi v2)] [] I J P := by
  refine xG_aload_n d_NM_read_0 rfl rfl rfl ?_
  refine xG_iconst (v := 0) d_NM_read_1 rfl ?_
  refine xG_puti d_NM_read_2 xf_NM_22 (Or.inl rfl) rfl hs0 rfl rfl ?_
  refine xG_aload_n d_NM_read_5 rfl rfl rfl ?_
  obtain ⟨a1, e1, s1, h⟩ := h
  refine xG_getq d_NM_read_6 xf_NM_26 e1 s1 ?_
  refine xG_iload_n d_NM_read_9 rfl rfl ?_
  refine xG_iald d_NM_read_10 (lo_1_7 hL s1) (so_1_7 s1) h.1 ?_
  have h := h.2
  refine xG_istore_n (lv' := [(3, xi ((xu I v0 3 0) (a1 + 2) v2.toNatClampNeg)), (0, xq (some v0)), (1, xq v1), (2, xi v2)]) d_NM_read_11 rfl (Nat.le_of_ble_eq_true rfl) rfl ?_
  refine xG_aload_n d_NM_read_12 rfl rfl rfl ?_
  refine xG_getq d_NM_read_13 xf_NM_31 e1 s1 ?_
  refine xG_iload_n d_NM_read_16 rfl rfl ?_
  refine xG_iald d_NM_read_17 (lo_1_8 hL s1) (so_1_8 s1) h.1 ?_
  have h := h.2
  refine xG_istore (lv' := [(4, xi ((xu I v0 3 0) (a1 + 3) v2.toNatClampNeg)), (3, xi ((xu I v0 3 0) (a1 + 2) v2.toNatClampNeg)), (0, xq (some v0)), (1, xq v1), (2, xi v2)]) d_NM_read_18 (Nat.le_of_ble_eq_true rfl) rfl ?_
  refine xG_iload_n d_NM_read_20 rfl rfl ?_
  refine xG_iload d_NM_read_21 rfl ?_
  refine xG_icmp_ne (tgt := 28) d_NM_read_23 (by decide) (fun c => ?_) (fun c => ?_)
  · have h := h.1 c
    refine xG_iconst (v := 0) d_NM_read_28 rfl ?_
    refine xG_istore (lv' := [(5, xi 0), (4, xi ((xu I v0 3 0) (a1 + 3) v2.toNatClampNeg)), (3, xi ((xu I v0 3 0) (a1 + 2) v2.toNatClampNeg)), (0, xq (some v0)), (1, xq v1), (2, xi v2)]) d_NM_read_29 (Nat.le_of_ble_eq_true rfl) rfl ?_
    refine xG_pick [3, 4, 5, 2, 1, 0] rfl ?_
    exact h
  · have h := h.2 c
    refine xG_iconst (v := 1) d_NM_read_26 rfl ?_
    exact xG_ireturn d_NM_read_27 rfl rfl ⟨rfl, hL, _, rfl, h⟩
set_option maxRecDepth 20000 in
theorem b_NM_read_31 {l : Launch} {V : xV} {Q : Int32 → xIt → xJt → xPt → Prop} {I : xIt} {J : xJt} {P : xPt} (hL : xL P) {v0 : Nat} (hs0 : xS0[v0]? = some (3, 0)) {v1 : Option Nat} {v2 : Int32} {v3 : Int32} {v4 : Int32} {v5 : Int32} (h : ((3 ≤ v5 → Q 0 I J P) ∧ (¬ 3 ≤ v5 → ((v3 < 0 → Q 0 I J P) ∧ (¬ v3 < 0 → (∃ a1 : Nat, v1 = some a1 ∧ xS0[a1]? = some (1, 0) ∧ (∃ Q2 : Int32 → xIt → xJt → xPt → Prop, xMet l V y_NM_readPart 4 0 0 [xq (some v0), xq (P a1 0), xi v3, xi v4, xi v5] xS0 I J P (xPi Q2) ∧ ∀ (z2 : Int32) (I2 : xIt) (J2 : xJt) (P2 : xPt), Q2 z2 I2 J2 P2 → ((¬ z2 = v4 → ((0 ≤ z2 → G_NM_read l V Q 31 [(0, xq (some v0)), (1, xq v1), (2, xi v2), (3, xi (z2 + 1)), (4, xi v4), (5, xi (v5 + 1))] [] I2 J2 P2) ∧ (¬ 0 ≤ z2 → G_NM_read l V Q 31 [(0, xq (some v0)), (1, xq v1), (2, xi v2), (3, xi z2), (4, xi v4), (5, xi (v5 + 1))] [] I2 J2 P2))) ∧ (z2 = v4 → Q 1 (xu I2 v0 3 (v5 + 1)) J2 P2))))))))) : G_NM_read l V Q 31 [(0, xq (some v0)), (1, xq v1), (2, xi v2), (3, xi v3), (4, xi v4), (5, xi v5)] [] I J P := by
  refine xG_iload d_NM_read_31 rfl ?_
  refine xG_iconst (v := 3) d_NM_read_33 rfl ?_
  refine xG_icmp_ge (tgt := 89) d_NM_read_34 (by decide) (fun c => ?_) (fun c => ?_)
  · have h := h.1 c
    refine xG_iconst (v := 0) d_NM_read_89 rfl ?_
    exact xG_ireturn d_NM_read_90 rfl rfl ⟨rfl, hL, _, rfl, h⟩
  · have h := h.2 c
    refine xG_iload_n d_NM_read_37 rfl rfl ?_
    refine xG_if_lt (tgt := 89) d_NM_read_38 (by decide) (fun c => ?_) (fun c => ?_)
    · have h := h.1 c
      refine xG_iconst (v := 0) d_NM_read_89 rfl ?_
      exact xG_ireturn d_NM_read_90 rfl rfl ⟨rfl, hL, _, rfl, h⟩
    · have h := h.2 c
      refine xG_aload_n d_NM_read_41 rfl rfl rfl ?_
      refine xG_aload_n d_NM_read_42 rfl rfl rfl ?_
      obtain ⟨a1, e1, s1, h⟩ := h
      refine xG_getq d_NM_read_43 xf_NM_34 e1 s1 ?_
      refine xG_iload_n d_NM_read_46 rfl rfl ?_
      refine xG_iload d_NM_read_47 rfl ?_
      refine xG_iload d_NM_read_49 rfl ?_
      obtain ⟨Q2, hM, h⟩ := h
      refine xG_callv (as := [xq (P a1 0), xi v3, xi v4, xi v5]) (rest := []) d_NM_read_51 yv_NM_readPart w2_137 rfl rfl rfl hs0 (by decide) rfl hM ⟨by decide, by decide⟩ (Nat.le_of_ble_eq_true rfl) ⟨Nat.zero_le _, Nat.zero_le _⟩ (fun r S2 I2 J2 P2 hp => ?_)
      obtain ⟨rfl, hL2, z2, rfl, hq⟩ := hp
      have h := h z2 I2 J2 P2 hq
      refine xG_istore_n (lv' := [(3, xi z2), (0, xq (some v0)), (1, xq v1), (2, xi v2), (4, xi v4), (5, xi v5)]) d_NM_read_54 rfl (Nat.le_of_ble_eq_true rfl) rfl ?_
      refine xG_iload_n d_NM_read_55 rfl rfl ?_
      refine xG_iload d_NM_read_56 rfl ?_
      refine xG_icmp_ne (tgt := 71) d_NM_read_58 (by decide) (fun c => ?_) (fun c => ?_)
      · have h := h.1 c
        refine xG_iload_n d_NM_read_71 rfl rfl ?_
        refine xG_if_ge (tgt := 79) d_NM_read_72 (by decide) (fun c => ?_) (fun c => ?_)
        · have h := h.1 c
          refine xG_iload_n d_NM_read_79 rfl rfl ?_
          refine xG_iconst (v := 1) d_NM_read_80 rfl ?_
          refine xG_iadd d_NM_read_81 ?_
          refine xG_istore_n (lv' := [(3, xi (z2 + 1)), (0, xq (some v0)), (1, xq v1), (2, xi v2), (4, xi v4), (5, xi v5)]) d_NM_read_82 rfl (Nat.le_of_ble_eq_true rfl) rfl ?_
          refine xG_iinc (v := v5 + 1) (lv' := [(5, xi (v5 + 1)), (3, xi (z2 + 1)), (0, xq (some v0)), (1, xq v1), (2, xi v2), (4, xi v4)]) d_NM_read_83 rfl rfl (Nat.le_of_ble_eq_true rfl) rfl ?_
          refine xG_goto (tgt := 31) d_NM_read_86 (by decide) ?_
          refine xG_pick [2, 3, 4, 1, 5, 0] rfl ?_
          exact h
        · have h := h.2 c
          refine xG_iload_n d_NM_read_75 rfl rfl ?_
          refine xG_goto (tgt := 82) d_NM_read_76 (by decide) ?_
          refine xG_istore_n (lv' := [(3, xi z2), (0, xq (some v0)), (1, xq v1), (2, xi v2), (4, xi v4), (5, xi v5)]) d_NM_read_82 rfl (Nat.le_of_ble_eq_true rfl) rfl ?_
          refine xG_iinc (v := v5 + 1) (lv' := [(5, xi (v5 + 1)), (3, xi z2), (0, xq (some v0)), (1, xq v1), (2, xi v2), (4, xi v4)]) d_NM_read_83 rfl rfl (Nat.le_of_ble_eq_true rfl) rfl ?_
          refine xG_goto (tgt := 31) d_NM_read_86 (by decide) ?_
          refine xG_pick [2, 3, 4, 1, 5, 0] rfl ?_
          exact h
      · have h := h.2 c
        refine xG_aload_n d_NM_read_61 rfl rfl rfl ?_
        refine xG_iload d_NM_read_62 rfl ?_
        refine xG_iconst (v := 1) d_NM_read_64 rfl ?_
        refine xG_iadd d_NM_read_65 ?_
        refine xG_puti d_NM_read_66 xf_NM_22 (Or.inl rfl) rfl hs0 rfl rfl ?_
        refine xG_iconst (v := 1) d_NM_read_69 rfl ?_
        exact xG_ireturn d_NM_read_70 rfl rfl ⟨rfl, hL2, _, rfl, h⟩
theorem e_NM_read {l : Launch} {V : xV} {Q : Int32 → xIt → xJt → xPt → Prop} {I : xIt} {J : xJt} {P : xPt} {v0 : Nat} {v1 : Option Nat} {v2 : Int32} (h : G_NM_read l V Q 0 [(0, xq (some v0)), (1, xq v1), (2, xi v2)] [] I J P) : xMet l V y_NM_read 5 0 0 [xq (some v0), xq v1, xi v2] xS0 I J P (xPi Q) := xMet_of (by decide) (Nat.le_of_ble_eq_true rfl) h

abbrev G_NM_readPart (l : Launch) (V : xV) (Q : Int32 → xIt → xJt → xPt → Prop) (pc : Nat) (lv : List (Nat × xX)) (st : List xX) (I : xIt) (J : xJt) (P : xPt) : Prop := xG l V y_NM_readPart (xR 4 0 0) (xFn V y_NM_readPart (xR 4 0 0) (xPi Q)) pc lv st xS0 I J P (0, 0)
set_option maxRecDepth 20000 in
theorem b_NM_readPart_0 {l : Launch} {V : xV} {Q : Int32 → xIt → xJt → xPt → Prop} {I : xIt} {J : xJt} {P : xPt} (hL : xL P) {v0 : Nat} (hs0 : xS0[v0]? = some (3, 0)) {v1 : Option Nat} {v2 : Int32} {v3 : Int32} {v4 : Int32} (h : (((v3 - v2) < 2 → Q (-1) I J P) ∧ (¬ (v3 - v2) < 2 → (∃ a1 n1 : Nat, v1 = some a1 ∧ xS0[a1]? = some (64, n1) ∧ (vp_in (v2 + 1) n1 ∧ (((I a1 ((v2 + 1).toNatClampNeg)) = 61 → (vp_in v2 n1 ∧ (∃ Q2 : Int32 → xIt → xJt → xPt → Prop, xMet l V y_SX_typeOf 2 0 0 [xi (I a1 v2.toNatClampNeg)] xS0 I J P (xPi Q2) ∧ ∀ (z2 : Int32) (I2 : xIt) (J2 : xJt) (P2 : xPt), Q2 z2 I2 J2 P2 → ((z2 = 1 → G_NM_readPart l V Q 55 [(0, xq (some v0)), (1, xq v1), (2, xi v2), (3, xi v3), (4, xi v4), (5, xi z2), (6, xj 0), (8, xi (v2 + 2))] [] I2 J2 P2) ∧ (¬ z2 = 1 → ((z2 = 2 → G_NM_readPart l V Q 55 [(0, xq (some v0)), (1, xq v1), (2, xi v2), (3, xi v3), (4, xi v4), (5, xi z2), (6, xj 0), (8, xi (v2 + 2))] [] I2 J2 P2) ∧ (¬ z2 = 2 → ((z2 = 3 → G_NM_readPart l V Q 55 [(0, xq (some v0)), (1, xq v1), (2, xi v2), (3, xi v3), (4, xi v4), (5, xi z2), (6, xj 0), (8, xi (v2 + 2))] [] I2 J2 P2) ∧ (¬ z2 = 3 → Q (-1) I2 J2 P2))))))))) ∧ (¬ (I a1 ((v2 + 1).toNatClampNeg)) = 61 → Q (-1) I J P))))))) : G_NM_readPart l V Q 0 [(0, xq (some v0)), (1, xq v1), (2, xi v2), (3, xi v3), (4, xi v4)] [] I J P := by
  refine xG_iload_n d_NM_readPart_0 rfl rfl ?_
  refine xG_iload_n d_NM_readPart_1 rfl rfl ?_
  refine xG_isub d_NM_readPart_2 ?_
  refine xG_iconst (v := 2) d_NM_readPart_3 rfl ?_
  refine xG_icmp_lt (tgt := 17) d_NM_readPart_4 (by decide) (fun c => ?_) (fun c => ?_)
  · have h := h.1 c
    refine xG_iconst (v := (-1)) d_NM_readPart_17 rfl ?_
    exact xG_ireturn d_NM_readPart_18 rfl rfl ⟨rfl, hL, _, rfl, h⟩
  · have h := h.2 c
    refine xG_aload_n d_NM_readPart_7 rfl rfl rfl ?_
    refine xG_iload_n d_NM_readPart_8 rfl rfl ?_
    refine xG_iconst (v := 1) d_NM_readPart_9 rfl ?_
    refine xG_iadd d_NM_readPart_10 ?_
    obtain ⟨a1, n1, e1, s1, h⟩ := h
    refine xG_iald d_NM_readPart_11 e1 s1 h.1 ?_
    have h := h.2
    refine xG_topi (x' := I a1 ((v2 + 1).toNatClampNeg)) (by first | rfl | exact xu_at | simp [xu]) ?_
    refine xG_bipush (v := 61) d_NM_readPart_12 rfl ?_
    refine xG_icmp_eq (tgt := 19) d_NM_readPart_14 (by decide) (fun c => ?_) (fun c => ?_)
    · have h := h.1 c
      refine xG_aload_n d_NM_readPart_19 rfl rfl rfl ?_
      refine xG_iload_n d_NM_readPart_20 rfl rfl ?_
      refine xG_iald d_NM_readPart_21 e1 s1 h.1 ?_
      have h := h.2
      obtain ⟨Q2, hM, h⟩ := h
      refine xG_calls (as := [xi (I a1 v2.toNatClampNeg)]) (rest := []) d_NM_readPart_22 ys_SX_typeOf w2_141 rfl rfl hM ⟨by decide, by decide⟩ (Nat.le_of_ble_eq_true rfl) ⟨Nat.zero_le _, Nat.zero_le _⟩ (fun r S2 I2 J2 P2 hp => ?_)
      obtain ⟨rfl, hL2, z2, rfl, hq⟩ := hp
      have h := h z2 I2 J2 P2 hq
      refine xG_istore (lv' := [(5, xi z2), (0, xq (some v0)), (1, xq v1), (2, xi v2), (3, xi v3), (4, xi v4)]) d_NM_readPart_25 (Nat.le_of_ble_eq_true rfl) rfl ?_
      refine xG_iload d_NM_readPart_27 rfl ?_
      refine xG_iconst (v := 1) d_NM_readPart_29 rfl ?_
      refine xG_icmp_eq (tgt := 47) d_NM_readPart_30 (by decide) (fun c => ?_) (fun c => ?_)
      · have h := h.1 c
        refine xG_lconst (v := 0) d_NM_readPart_47 rfl ?_
        refine xG_lstore (lv' := [(6, xj 0), (5, xi z2), (0, xq (some v0)), (1, xq v1), (2, xi v2), (3, xi v3), (4, xi v4)]) d_NM_readPart_48 (Nat.le_of_ble_eq_true rfl) rfl ?_
        refine xG_iload_n d_NM_readPart_50 rfl rfl ?_
        refine xG_iconst (v := 2) d_NM_readPart_51 rfl ?_
        refine xG_iadd d_NM_readPart_52 ?_
        refine xG_istore (lv' := [(8, xi (v2 + 2)), (6, xj 0), (5, xi z2), (0, xq (some v0)), (1, xq v1), (2, xi v2), (3, xi v3), (4, xi v4)]) d_NM_readPart_53 (Nat.le_of_ble_eq_true rfl) rfl ?_
        refine xG_pick [3, 4, 5, 6, 7, 2, 1, 0] rfl ?_
        exact h
      · have h := h.2 c
        refine xG_iload d_NM_readPart_33 rfl ?_
        refine xG_iconst (v := 2) d_NM_readPart_35 rfl ?_
        refine xG_icmp_eq (tgt := 47) d_NM_readPart_36 (by decide) (fun c => ?_) (fun c => ?_)
        · have h := h.1 c
          refine xG_lconst (v := 0) d_NM_readPart_47 rfl ?_
          refine xG_lstore (lv' := [(6, xj 0), (5, xi z2), (0, xq (some v0)), (1, xq v1), (2, xi v2), (3, xi v3), (4, xi v4)]) d_NM_readPart_48 (Nat.le_of_ble_eq_true rfl) rfl ?_
          refine xG_iload_n d_NM_readPart_50 rfl rfl ?_
          refine xG_iconst (v := 2) d_NM_readPart_51 rfl ?_
          refine xG_iadd d_NM_readPart_52 ?_
          refine xG_istore (lv' := [(8, xi (v2 + 2)), (6, xj 0), (5, xi z2), (0, xq (some v0)), (1, xq v1), (2, xi v2), (3, xi v3), (4, xi v4)]) d_NM_readPart_53 (Nat.le_of_ble_eq_true rfl) rfl ?_
          refine xG_pick [3, 4, 5, 6, 7, 2, 1, 0] rfl ?_
          exact h
        · have h := h.2 c
          refine xG_iload d_NM_readPart_39 rfl ?_
          refine xG_iconst (v := 3) d_NM_readPart_41 rfl ?_
          refine xG_icmp_eq (tgt := 47) d_NM_readPart_42 (by decide) (fun c => ?_) (fun c => ?_)
          · have h := h.1 c
            refine xG_lconst (v := 0) d_NM_readPart_47 rfl ?_
            refine xG_lstore (lv' := [(6, xj 0), (5, xi z2), (0, xq (some v0)), (1, xq v1), (2, xi v2), (3, xi v3), (4, xi v4)]) d_NM_readPart_48 (Nat.le_of_ble_eq_true rfl) rfl ?_
            refine xG_iload_n d_NM_readPart_50 rfl rfl ?_
            refine xG_iconst (v := 2) d_NM_readPart_51 rfl ?_
            refine xG_iadd d_NM_readPart_52 ?_
            refine xG_istore (lv' := [(8, xi (v2 + 2)), (6, xj 0), (5, xi z2), (0, xq (some v0)), (1, xq v1), (2, xi v2), (3, xi v3), (4, xi v4)]) d_NM_readPart_53 (Nat.le_of_ble_eq_true rfl) rfl ?_
            refine xG_pick [3, 4, 5, 6, 7, 2, 1, 0] rfl ?_
            exact h
          · have h := h.2 c
            refine xG_iconst (v := (-1)) d_NM_readPart_45 rfl ?_
            exact xG_ireturn d_NM_readPart_46 rfl rfl ⟨rfl, hL2, _, rfl, h⟩
    · have h := h.2 c
      refine xG_iconst (v := (-1)) d_NM_readPart_17 rfl ?_
      exact xG_ireturn d_NM_readPart_18 rfl rfl ⟨rfl, hL, _, rfl, h⟩
set_option maxRecDepth 20000 in
theorem b_NM_readPart_55 {l : Launch} {V : xV} {Q : Int32 → xIt → xJt → xPt → Prop} {I : xIt} {J : xJt} {P : xPt} (hL : xL P) {v0 : Nat} (hs0 : xS0[v0]? = some (3, 0)) {v1 : Option Nat} {v2 : Int32} {v3 : Int32} {v4 : Int32} {v5 : Int32} {v6 : Int64} {v8 : Int32} (h : ((v3 ≤ v8 → G_NM_readPart l V Q 140 [(0, xq (some v0)), (1, xq v1), (2, xi v2), (3, xi v3), (4, xi v4), (5, xi v5), (6, xj v6), (8, xi v8)] [] I J P) ∧ (¬ v3 ≤ v8 → (∃ a1 n1 : Nat, v1 = some a1 ∧ xS0[a1]? = some (64, n1) ∧ (vp_in v8 n1 ∧ (((I a1 v8.toNatClampNeg) = 44 → G_NM_readPart l V Q 140 [(0, xq (some v0)), (1, xq v1), (2, xi v2), (3, xi v3), (4, xi v4), (5, xi v5), (6, xj v6), (8, xi v8)] [] I J P) ∧ (¬ (I a1 v8.toNatClampNeg) = 44 → (vp_in v8 n1 ∧ ((¬ (I a1 v8.toNatClampNeg) = 92 → (vp_in v8 n1 ∧ ((¬ (I a1 v8.toNatClampNeg) = 61 → G_NM_readPart l V Q 111 [(0, xq (some v0)), (1, xq v1), (2, xi v2), (3, xi v3), (4, xi v4), (5, xi v5), (6, xj v6), (8, xi v8)] [] I J P) ∧ ((I a1 v8.toNatClampNeg) = 61 → Q (-1) I J P)))) ∧ ((I a1 v8.toNatClampNeg) = 92 → (((v8 + 1) = v3 → Q (-1) I J P) ∧ (¬ (v8 + 1) = v3 → (vp_in (v8 + 1) n1 ∧ (∃ Q2 : Int32 → xIt → xJt → xPt → Prop, xMet l V y_NM_isMarked 1 0 0 [xi (I a1 ((v8 + 1).toNatClampNeg))] xS0 I J P (xPi Q2) ∧ ∀ (z2 : Int32) (I2 : xIt) (J2 : xJt) (P2 : xPt), Q2 z2 I2 J2 P2 → ((¬ z2 = 0 → G_NM_readPart l V Q 111 [(0, xq (some v0)), (1, xq v1), (2, xi v2), (3, xi v3), (4, xi v4), (5, xi v5), (6, xj v6), (8, xi (v8 + 1))] [] I2 J2 P2) ∧ (z2 = 0 → Q (-1) I2 J2 P2)))))))))))))))) : G_NM_readPart l V Q 55 [(0, xq (some v0)), (1, xq v1), (2, xi v2), (3, xi v3), (4, xi v4), (5, xi v5), (6, xj v6), (8, xi v8)] [] I J P := by
  refine xG_iload d_NM_readPart_55 rfl ?_
  refine xG_iload_n d_NM_readPart_57 rfl rfl ?_
  refine xG_icmp_ge (tgt := 140) d_NM_readPart_58 (by decide) (fun c => ?_) (fun c => ?_)
  · have h := h.1 c
    exact h
  · have h := h.2 c
    refine xG_aload_n d_NM_readPart_61 rfl rfl rfl ?_
    refine xG_iload d_NM_readPart_62 rfl ?_
    obtain ⟨a1, n1, e1, s1, h⟩ := h
    refine xG_iald d_NM_readPart_64 e1 s1 h.1 ?_
    have h := h.2
    refine xG_bipush (v := 44) d_NM_readPart_65 rfl ?_
    refine xG_icmp_eq (tgt := 140) d_NM_readPart_67 (by decide) (fun c => ?_) (fun c => ?_)
    · have h := h.1 c
      exact h
    · have h := h.2 c
      refine xG_aload_n d_NM_readPart_70 rfl rfl rfl ?_
      refine xG_iload d_NM_readPart_71 rfl ?_
      refine xG_iald d_NM_readPart_73 e1 s1 h.1 ?_
      have h := h.2
      refine xG_bipush (v := 92) d_NM_readPart_74 rfl ?_
      refine xG_icmp_ne (tgt := 100) d_NM_readPart_76 (by decide) (fun c => ?_) (fun c => ?_)
      · have h := h.1 c
        refine xG_aload_n d_NM_readPart_100 rfl rfl rfl ?_
        refine xG_iload d_NM_readPart_101 rfl ?_
        refine xG_iald d_NM_readPart_103 e1 s1 h.1 ?_
        have h := h.2
        refine xG_bipush (v := 61) d_NM_readPart_104 rfl ?_
        refine xG_icmp_ne (tgt := 111) d_NM_readPart_106 (by decide) (fun c => ?_) (fun c => ?_)
        · have h := h.1 c
          exact h
        · have h := h.2 c
          refine xG_iconst (v := (-1)) d_NM_readPart_109 rfl ?_
          exact xG_ireturn d_NM_readPart_110 rfl rfl ⟨rfl, hL, _, rfl, h⟩
      · have h := h.2 c
        refine xG_iinc (v := v8 + 1) (lv' := [(8, xi (v8 + 1)), (0, xq (some v0)), (1, xq v1), (2, xi v2), (3, xi v3), (4, xi v4), (5, xi v5), (6, xj v6)]) d_NM_readPart_79 rfl rfl (Nat.le_of_ble_eq_true rfl) rfl ?_
        refine xG_iload d_NM_readPart_82 rfl ?_
        refine xG_iload_n d_NM_readPart_84 rfl rfl ?_
        refine xG_icmp_eq (tgt := 98) d_NM_readPart_85 (by decide) (fun c => ?_) (fun c => ?_)
        · have h := h.1 c
          refine xG_iconst (v := (-1)) d_NM_readPart_98 rfl ?_
          exact xG_ireturn d_NM_readPart_99 rfl rfl ⟨rfl, hL, _, rfl, h⟩
        · have h := h.2 c
          refine xG_aload_n d_NM_readPart_88 rfl rfl rfl ?_
          refine xG_iload d_NM_readPart_89 rfl ?_
          refine xG_iald d_NM_readPart_91 e1 s1 h.1 ?_
          have h := h.2
          refine xG_topi (x' := I a1 ((v8 + 1).toNatClampNeg)) (by first | rfl | exact xu_at | simp [xu]) ?_
          obtain ⟨Q2, hM, h⟩ := h
          refine xG_calls (as := [xi (I a1 ((v8 + 1).toNatClampNeg))]) (rest := []) d_NM_readPart_92 ys_NM_isMarked w2_149 rfl rfl hM ⟨by decide, by decide⟩ (Nat.le_of_ble_eq_true rfl) ⟨Nat.zero_le _, Nat.zero_le _⟩ (fun r S2 I2 J2 P2 hp => ?_)
          obtain ⟨rfl, hL2, z2, rfl, hq⟩ := hp
          have h := h z2 I2 J2 P2 hq
          refine xG_if_ne (tgt := 111) d_NM_readPart_95 (by decide) (fun c => ?_) (fun c => ?_)
          · have h := h.1 c
            refine xG_pick [1, 2, 3, 4, 5, 6, 7, 0] rfl ?_
            exact h
          · have h := h.2 c
            refine xG_iconst (v := (-1)) d_NM_readPart_98 rfl ?_
            exact xG_ireturn d_NM_readPart_99 rfl rfl ⟨rfl, hL2, _, rfl, h⟩
set_option maxRecDepth 20000 in
theorem b_NM_readPart_111 {l : Launch} {V : xV} {Q : Int32 → xIt → xJt → xPt → Prop} {I : xIt} {J : xJt} {P : xPt} (hL : xL P) {v0 : Nat} (hs0 : xS0[v0]? = some (3, 0)) {v1 : Option Nat} {v2 : Int32} {v3 : Int32} {v4 : Int32} {v5 : Int32} {v6 : Int64} {v8 : Int32} (h : (∃ Q1 : Int32 → xIt → xJt → xPt → Prop, xMet l V y_PK_sizeOf 1 0 0 [xj v6] xS0 I J P (xPi Q1) ∧ ∀ (z1 : Int32) (I1 : xIt) (J1 : xJt) (P1 : xPt), Q1 z1 I1 J1 P1 → ((¬ z1 = 6 → (∃ a2 n2 : Nat, v1 = some a2 ∧ xS0[a2]? = some (64, n2) ∧ (vp_in v8 n2 ∧ (∃ Q3 : Int64 → xIt → xJt → xPt → Prop, xMet l V y_PK_append 1 0 0 [xj v6, xi (I1 a2 v8.toNatClampNeg)] xS0 I1 J1 P1 (xPl Q3) ∧ ∀ (z3 : Int64) (I3 : xIt) (J3 : xJt) (P3 : xPt), Q3 z3 I3 J3 P3 → G_NM_readPart l V Q 55 [(0, xq (some v0)), (1, xq v1), (2, xi v2), (3, xi v3), (4, xi v4), (5, xi v5), (6, xj z3), (8, xi (v8 + 1))] [] I3 J3 P3)))) ∧ (z1 = 6 → Q (-1) I1 J1 P1)))) : G_NM_readPart l V Q 111 [(0, xq (some v0)), (1, xq v1), (2, xi v2), (3, xi v3), (4, xi v4), (5, xi v5), (6, xj v6), (8, xi v8)] [] I J P := by
  refine xG_lload d_NM_readPart_111 rfl ?_
  obtain ⟨Q1, hM, h⟩ := h
  refine xG_calls (as := [xj v6]) (rest := []) d_NM_readPart_113 ys_PK_sizeOf w2_152 rfl rfl hM ⟨by decide, by decide⟩ (Nat.le_of_ble_eq_true rfl) ⟨Nat.zero_le _, Nat.zero_le _⟩ (fun r S1 I1 J1 P1 hp => ?_)
  obtain ⟨rfl, hL1, z1, rfl, hq⟩ := hp
  have h := h z1 I1 J1 P1 hq
  refine xG_bipush (v := 6) d_NM_readPart_116 rfl ?_
  refine xG_icmp_ne (tgt := 123) d_NM_readPart_118 (by decide) (fun c => ?_) (fun c => ?_)
  · have h := h.1 c
    refine xG_lload d_NM_readPart_123 rfl ?_
    refine xG_aload_n d_NM_readPart_125 rfl rfl rfl ?_
    refine xG_iload d_NM_readPart_126 rfl ?_
    obtain ⟨a2, n2, e2, s2, h⟩ := h
    refine xG_iald d_NM_readPart_128 e2 s2 h.1 ?_
    have h := h.2
    obtain ⟨Q3, hM, h⟩ := h
    refine xG_calls (as := [xj v6, xi (I1 a2 v8.toNatClampNeg)]) (rest := []) d_NM_readPart_129 ys_PK_append w2_155 rfl rfl hM ⟨by decide, by decide⟩ (Nat.le_of_ble_eq_true rfl) ⟨Nat.zero_le _, Nat.zero_le _⟩ (fun r S3 I3 J3 P3 hp => ?_)
    obtain ⟨rfl, hL3, z3, rfl, hq⟩ := hp
    have h := h z3 I3 J3 P3 hq
    refine xG_lstore (lv' := [(6, xj z3), (0, xq (some v0)), (1, xq v1), (2, xi v2), (3, xi v3), (4, xi v4), (5, xi v5), (8, xi v8)]) d_NM_readPart_132 (Nat.le_of_ble_eq_true rfl) rfl ?_
    refine xG_iinc (v := v8 + 1) (lv' := [(8, xi (v8 + 1)), (6, xj z3), (0, xq (some v0)), (1, xq v1), (2, xi v2), (3, xi v3), (4, xi v4), (5, xi v5)]) d_NM_readPart_134 rfl rfl (Nat.le_of_ble_eq_true rfl) rfl ?_
    refine xG_goto (tgt := 55) d_NM_readPart_137 (by decide) ?_
    refine xG_pick [2, 3, 4, 5, 6, 7, 1, 0] rfl ?_
    exact h
  · have h := h.2 c
    refine xG_iconst (v := (-1)) d_NM_readPart_121 rfl ?_
    exact xG_ireturn d_NM_readPart_122 rfl rfl ⟨rfl, hL1, _, rfl, h⟩
set_option maxRecDepth 20000 in
theorem b_NM_readPart_140 {l : Launch} {V : xV} {Q : Int32 → xIt → xJt → xPt → Prop} {I : xIt} {J : xJt} {P : xPt} (hL : xL P) {v0 : Nat} (hs0 : xS0[v0]? = some (3, 0)) {v1 : Option Nat} {v2 : Int32} {v3 : Int32} {v4 : Int32} {v5 : Int32} {v6 : Int64} {v8 : Int32} (h : (vp_in v4 3 ∧ (vp_in v4 3 ∧ (∃ Q1 : Int64 → xIt → xJt → xPt → Prop, xMet l V y_SX_plainOf 3 0 0 [xi v5, xj v6] xS0 (xu I (v0 + 1) v4.toNatClampNeg v5) (xu J (v0 + 2) v4.toNatClampNeg v6) P (xPl Q1) ∧ ∀ (z1 : Int64) (I1 : xIt) (J1 : xJt) (P1 : xPt), Q1 z1 I1 J1 P1 → (vp_in v4 3 ∧ (vp_in v4 3 ∧ ((¬ (lg_cmp z1 (-1)) = 0 → Q v8 I1 (xu J1 (v0 + 3) v4.toNatClampNeg z1) P1) ∧ ((lg_cmp z1 (-1)) = 0 → Q (-1) I1 (xu J1 (v0 + 3) v4.toNatClampNeg z1) P1)))))))) : G_NM_readPart l V Q 140 [(0, xq (some v0)), (1, xq v1), (2, xi v2), (3, xi v3), (4, xi v4), (5, xi v5), (6, xj v6), (8, xi v8)] [] I J P := by
  refine xG_aload_n d_NM_readPart_140 rfl rfl rfl ?_
  refine xG_getq d_NM_readPart_141 xf_NM_9 rfl hs0 ?_
  refine xG_iload d_NM_readPart_144 rfl ?_
  refine xG_iload d_NM_readPart_146 rfl ?_
  refine xG_iast d_NM_readPart_148 (lo_3_0 hL hs0) (so_3_0 hs0) h.1 ?_
  have h := h.2
  refine xG_aload_n d_NM_readPart_149 rfl rfl rfl ?_
  refine xG_getq d_NM_readPart_150 xf_NM_15 rfl hs0 ?_
  refine xG_iload d_NM_readPart_153 rfl ?_
  refine xG_lload d_NM_readPart_155 rfl ?_
  refine xG_last d_NM_readPart_157 (lo_3_1 hL hs0) (so_3_1 hs0) h.1 ?_
  have h := h.2
  refine xG_aload_n d_NM_readPart_158 rfl rfl rfl ?_
  refine xG_getq d_NM_readPart_159 xf_NM_19 rfl hs0 ?_
  refine xG_iload d_NM_readPart_162 rfl ?_
  refine xG_iload d_NM_readPart_164 rfl ?_
  refine xG_lload d_NM_readPart_166 rfl ?_
  obtain ⟨Q1, hM, h⟩ := h
  refine xG_calls (as := [xi v5, xj v6]) (rest := [xi v4, xq (P v0 2)]) d_NM_readPart_168 ys_SX_plainOf w2_159 rfl rfl hM ⟨by decide, by decide⟩ (Nat.le_of_ble_eq_true rfl) ⟨Nat.zero_le _, Nat.zero_le _⟩ (fun r S1 I1 J1 P1 hp => ?_)
  obtain ⟨rfl, hL1, z1, rfl, hq⟩ := hp
  have h := h z1 I1 J1 P1 hq
  refine xG_last d_NM_readPart_171 (lo_3_2 hL hs0) (so_3_2 hs0) h.1 ?_
  have h := h.2
  refine xG_aload_n d_NM_readPart_172 rfl rfl rfl ?_
  refine xG_getq d_NM_readPart_173 xf_NM_19 rfl hs0 ?_
  refine xG_iload d_NM_readPart_176 rfl ?_
  refine xG_lald d_NM_readPart_178 (lo_3_2 hL1 hs0) (so_3_2 hs0) h.1 ?_
  have h := h.2
  refine xG_topj (x' := z1) (by first | rfl | exact xu_at | simp [xu]) ?_
  refine xG_ldc2 (v := (-1)) d_NM_readPart_179 w2_177 ?_
  refine xG_lcmp d_NM_readPart_182 ?_
  refine xG_if_ne (tgt := 190) d_NM_readPart_183 (by decide) (fun c => ?_) (fun c => ?_)
  · have h := h.1 c
    refine xG_iload d_NM_readPart_190 rfl ?_
    exact xG_ireturn d_NM_readPart_192 rfl rfl ⟨rfl, hL1, _, rfl, h⟩
  · have h := h.2 c
    refine xG_iconst (v := (-1)) d_NM_readPart_186 rfl ?_
    refine xG_goto (tgt := 192) d_NM_readPart_187 (by decide) ?_
    exact xG_ireturn d_NM_readPart_192 rfl rfl ⟨rfl, hL1, _, rfl, h⟩
theorem e_NM_readPart {l : Launch} {V : xV} {Q : Int32 → xIt → xJt → xPt → Prop} {I : xIt} {J : xJt} {P : xPt} {v0 : Nat} {v1 : Option Nat} {v2 : Int32} {v3 : Int32} {v4 : Int32} (h : G_NM_readPart l V Q 0 [(0, xq (some v0)), (1, xq v1), (2, xi v2), (3, xi v3), (4, xi v4)] [] I J P) : xMet l V y_NM_readPart 4 0 0 [xq (some v0), xq v1, xi v2, xi v3, xi v4] xS0 I J P (xPi Q) := xMet_of (by decide) (Nat.le_of_ble_eq_true rfl) h

abbrev G_NM_isMarked (l : Launch) (V : xV) (Q : Int32 → xIt → xJt → xPt → Prop) (pc : Nat) (lv : List (Nat × xX)) (st : List xX) (I : xIt) (J : xJt) (P : xPt) : Prop := xG l V y_NM_isMarked (xR 1 0 0) (xFn V y_NM_isMarked (xR 1 0 0) (xPi Q)) pc lv st xS0 I J P (0, 0)
set_option maxRecDepth 20000 in
theorem b_NM_isMarked_0 {l : Launch} {V : xV} {Q : Int32 → xIt → xJt → xPt → Prop} {I : xIt} {J : xJt} {P : xPt} (hL : xL P) {v0 : Int32} (h : ((v0 = 44 → Q 1 I J P) ∧ (¬ v0 = 44 → ((v0 = 61 → Q 1 I J P) ∧ (¬ v0 = 61 → ((¬ v0 = 92 → Q 0 I J P) ∧ (v0 = 92 → Q 1 I J P))))))) : G_NM_isMarked l V Q 0 [(0, xi v0)] [] I J P := by
  refine xG_iload_n d_NM_isMarked_0 rfl rfl ?_
  refine xG_bipush (v := 44) d_NM_isMarked_1 rfl ?_
  refine xG_icmp_eq (tgt := 18) d_NM_isMarked_3 (by decide) (fun c => ?_) (fun c => ?_)
  · have h := h.1 c
    refine xG_iconst (v := 1) d_NM_isMarked_18 rfl ?_
    refine xG_goto (tgt := 23) d_NM_isMarked_19 (by decide) ?_
    exact xG_ireturn d_NM_isMarked_23 rfl rfl ⟨rfl, hL, _, rfl, h⟩
  · have h := h.2 c
    refine xG_iload_n d_NM_isMarked_6 rfl rfl ?_
    refine xG_bipush (v := 61) d_NM_isMarked_7 rfl ?_
    refine xG_icmp_eq (tgt := 18) d_NM_isMarked_9 (by decide) (fun c => ?_) (fun c => ?_)
    · have h := h.1 c
      refine xG_iconst (v := 1) d_NM_isMarked_18 rfl ?_
      refine xG_goto (tgt := 23) d_NM_isMarked_19 (by decide) ?_
      exact xG_ireturn d_NM_isMarked_23 rfl rfl ⟨rfl, hL, _, rfl, h⟩
    · have h := h.2 c
      refine xG_iload_n d_NM_isMarked_12 rfl rfl ?_
      refine xG_bipush (v := 92) d_NM_isMarked_13 rfl ?_
      refine xG_icmp_ne (tgt := 22) d_NM_isMarked_15 (by decide) (fun c => ?_) (fun c => ?_)
      · have h := h.1 c
        refine xG_iconst (v := 0) d_NM_isMarked_22 rfl ?_
        exact xG_ireturn d_NM_isMarked_23 rfl rfl ⟨rfl, hL, _, rfl, h⟩
      · have h := h.2 c
        refine xG_iconst (v := 1) d_NM_isMarked_18 rfl ?_
        refine xG_goto (tgt := 23) d_NM_isMarked_19 (by decide) ?_
        exact xG_ireturn d_NM_isMarked_23 rfl rfl ⟨rfl, hL, _, rfl, h⟩
theorem e_NM_isMarked {l : Launch} {V : xV} {Q : Int32 → xIt → xJt → xPt → Prop} {I : xIt} {J : xJt} {P : xPt} {v0 : Int32} (h : G_NM_isMarked l V Q 0 [(0, xi v0)] [] I J P) : xMet l V y_NM_isMarked 1 0 0 [xi v0] xS0 I J P (xPi Q) := xMet_of (by decide) (Nat.le_of_ble_eq_true rfl) h

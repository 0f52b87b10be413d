abbrev G_PK_sizeOf (l : Launch) (V : xV) (Q : Int32 → xIt → xJt → xPt → Prop) (pc : Nat) (lv : List (Nat × xX)) (st : List xX) (I : xIt) (J : xJt) (P : xPt) : Prop := xG l V y_PK_sizeOf (xR 1 0 0) (xFn V y_PK_sizeOf (xR 1 0 0) (xPi Q)) pc lv st xS0 I J P (0, 0)
set_option maxRecDepth 20000 in
theorem b_PK_sizeOf_0 {l : Launch} {V : xV} {Q : Int32 → xIt → xJt → xPt → Prop} {I : xIt} {J : xJt} {P : xPt} (hL : xL P) {v0 : Int64} (h : Q (((v0.toUInt64 >>> ((48 : Int32).toInt64.toUInt64 &&& Int64.toUInt64 63)).toInt64).toInt32) I J P) : G_PK_sizeOf l V Q 0 [(0, xj v0)] [] I J P := by
  refine xG_lload_n d_PK_sizeOf_0 rfl rfl ?_
  refine xG_bipush (v := 48) d_PK_sizeOf_1 rfl ?_
  refine xG_lushr d_PK_sizeOf_3 ?_
  refine xG_l2i d_PK_sizeOf_4 ?_
  exact xG_ireturn d_PK_sizeOf_5 rfl rfl ⟨rfl, hL, _, rfl, h⟩
theorem e_PK_sizeOf {l : Launch} {V : xV} {Q : Int32 → xIt → xJt → xPt → Prop} {I : xIt} {J : xJt} {P : xPt} {v0 : Int64} (h : G_PK_sizeOf l V Q 0 [(0, xj v0)] [] I J P) : xMet l V y_PK_sizeOf 1 0 0 [xj v0] xS0 I J P (xPi Q) := xMet_of (by decide) (Nat.le_of_ble_eq_true rfl) h

abbrev G_PK_byteAt (l : Launch) (V : xV) (Q : Int32 → xIt → xJt → xPt → Prop) (pc : Nat) (lv : List (Nat × xX)) (st : List xX) (I : xIt) (J : xJt) (P : xPt) : Prop := xG l V y_PK_byteAt (xR 1 0 0) (xFn V y_PK_byteAt (xR 1 0 0) (xPi Q)) pc lv st xS0 I J P (0, 0)
set_option maxRecDepth 20000 in
theorem b_PK_byteAt_0 {l : Launch} {V : xV} {Q : Int32 → xIt → xJt → xPt → Prop} {I : xIt} {J : xJt} {P : xPt} (hL : xL P) {v0 : Int64} {v2 : Int32} (h : Q ((((v0.toUInt64 >>> ((8 * (((((v0.toUInt64 >>> ((48 : Int32).toInt64.toUInt64 &&& Int64.toUInt64 63)).toInt64).toInt32) - 1) - v2)).toInt64.toUInt64 &&& Int64.toUInt64 63)).toInt64).toInt32) &&& 255) I J P) : G_PK_byteAt l V Q 0 [(0, xj v0), (2, xi v2)] [] I J P := by
  refine xG_lload_n d_PK_byteAt_0 rfl rfl ?_
  refine xG_bipush (v := 48) d_PK_byteAt_1 rfl ?_
  refine xG_lushr d_PK_byteAt_3 ?_
  refine xG_l2i d_PK_byteAt_4 ?_
  refine xG_istore_n (lv' := [(3, xi (((v0.toUInt64 >>> ((48 : Int32).toInt64.toUInt64 &&& Int64.toUInt64 63)).toInt64).toInt32)), (0, xj v0), (2, xi v2)]) d_PK_byteAt_5 rfl (Nat.le_of_ble_eq_true rfl) rfl ?_
  refine xG_lload_n d_PK_byteAt_6 rfl rfl ?_
  refine xG_bipush (v := 8) d_PK_byteAt_7 rfl ?_
  refine xG_iload_n d_PK_byteAt_9 rfl rfl ?_
  refine xG_iconst (v := 1) d_PK_byteAt_10 rfl ?_
  refine xG_isub d_PK_byteAt_11 ?_
  refine xG_iload_n d_PK_byteAt_12 rfl rfl ?_
  refine xG_isub d_PK_byteAt_13 ?_
  refine xG_imul d_PK_byteAt_14 ?_
  refine xG_lushr d_PK_byteAt_15 ?_
  refine xG_l2i d_PK_byteAt_16 ?_
  refine xG_sipush (v := 255) d_PK_byteAt_17 rfl ?_
  refine xG_iand d_PK_byteAt_20 ?_
  exact xG_ireturn d_PK_byteAt_21 rfl rfl ⟨rfl, hL, _, rfl, h⟩
theorem e_PK_byteAt {l : Launch} {V : xV} {Q : Int32 → xIt → xJt → xPt → Prop} {I : xIt} {J : xJt} {P : xPt} {v0 : Int64} {v2 : Int32} (h : G_PK_byteAt l V Q 0 [(0, xj v0), (2, xi v2)] [] I J P) : xMet l V y_PK_byteAt 1 0 0 [xj v0, xi v2] xS0 I J P (xPi Q) := xMet_of (by decide) (Nat.le_of_ble_eq_true rfl) h

abbrev G_PK_append (l : Launch) (V : xV) (Q : Int64 → xIt → xJt → xPt → Prop) (pc : Nat) (lv : List (Nat × xX)) (st : List xX) (I : xIt) (J : xJt) (P : xPt) : Prop := xG l V y_PK_append (xR 1 0 0) (xFn V y_PK_append (xR 1 0 0) (xPl Q)) pc lv st xS0 I J P (0, 0)
set_option maxRecDepth 20000 in
theorem b_PK_append_0 {l : Launch} {V : xV} {Q : Int64 → xIt → xJt → xPt → Prop} {I : xIt} {J : xJt} {P : xPt} (hL : xL P) {v0 : Int64} {v2 : Int32} (h : Q (((((v0.toUInt64 >>> ((48 : Int32).toInt64.toUInt64 &&& Int64.toUInt64 63)).toInt64) + 1) <<< ((48 : Int32).toInt64 &&& 63)) ||| (((v0 <<< ((8 : Int32).toInt64 &&& 63)) ||| v2.toInt64) &&& 281474976710655)) I J P) : G_PK_append l V Q 0 [(0, xj v0), (2, xi v2)] [] I J P := by
  refine xG_lload_n d_PK_append_0 rfl rfl ?_
  refine xG_bipush (v := 48) d_PK_append_1 rfl ?_
  refine xG_lushr d_PK_append_3 ?_
  refine xG_lconst (v := 1) d_PK_append_4 rfl ?_
  refine xG_ladd d_PK_append_5 ?_
  refine xG_lstore_n (lv' := [(3, xj (((v0.toUInt64 >>> ((48 : Int32).toInt64.toUInt64 &&& Int64.toUInt64 63)).toInt64) + 1)), (0, xj v0), (2, xi v2)]) d_PK_append_6 rfl (Nat.le_of_ble_eq_true rfl) rfl ?_
  refine xG_lload_n d_PK_append_7 rfl rfl ?_
  refine xG_bipush (v := 48) d_PK_append_8 rfl ?_
  refine xG_lshl d_PK_append_10 ?_
  refine xG_lload_n d_PK_append_11 rfl rfl ?_
  refine xG_bipush (v := 8) d_PK_append_12 rfl ?_
  refine xG_lshl d_PK_append_14 ?_
  refine xG_iload_n d_PK_append_15 rfl rfl ?_
  refine xG_i2l d_PK_append_16 ?_
  refine xG_lor d_PK_append_17 ?_
  refine xG_ldc2 (v := 281474976710655) d_PK_append_18 w2_158 ?_
  refine xG_land d_PK_append_21 ?_
  refine xG_lor d_PK_append_22 ?_
  exact xG_lreturn d_PK_append_23 rfl ⟨rfl, hL, _, rfl, h⟩
theorem e_PK_append {l : Launch} {V : xV} {Q : Int64 → xIt → xJt → xPt → Prop} {I : xIt} {J : xJt} {P : xPt} {v0 : Int64} {v2 : Int32} (h : G_PK_append l V Q 0 [(0, xj v0), (2, xi v2)] [] I J P) : xMet l V y_PK_append 1 0 0 [xj v0, xi v2] xS0 I J P (xPl Q) := xMet_of (by decide) (Nat.le_of_ble_eq_true rfl) h

abbrev G_PK_of (l : Launch) (V : xV) (Q : Int64 → xIt → xJt → xPt → Prop) (pc : Nat) (lv : List (Nat × xX)) (st : List xX) (I : xIt) (J : xJt) (P : xPt) : Prop := xG l V y_PK_of (xR 2 0 0) (xFn V y_PK_of (xR 2 0 0) (xPl Q)) pc lv st xS0 I J P (0, 0)
set_option maxRecDepth 20000 in
theorem b_PK_of_0 {l : Launch} {V : xV} {Q : Int64 → xIt → xJt → xPt → Prop} {I : xIt} {J : xJt} {P : xPt} (hL : xL P) {v0 : Option Nat} {v1 : Int32} {v2 : Int32} (h : ((v2 ≤ v1 → Q (-1) I J P) ∧ (¬ v2 ≤ v1 → (((v2 - v1) ≤ 6 → G_PK_of l V Q 22 [(0, xq v0), (1, xi v1), (2, xi v2), (3, xj 0), (5, xi v1)] [] I J P) ∧ (¬ (v2 - v1) ≤ 6 → Q (-1) I J P))))) : G_PK_of l V Q 0 [(0, xq v0), (1, xi v1), (2, xi v2)] [] I J P := by
  refine xG_iload_n d_PK_of_0 rfl rfl ?_
  refine xG_iload_n d_PK_of_1 rfl rfl ?_
  refine xG_icmp_le (tgt := 13) d_PK_of_2 (by decide) (fun c => ?_) (fun c => ?_)
  · have h := h.1 c
    refine xG_ldc2 (v := (-1)) d_PK_of_13 w2_205 ?_
    exact xG_lreturn d_PK_of_16 rfl ⟨rfl, hL, _, rfl, h⟩
  · have h := h.2 c
    refine xG_iload_n d_PK_of_5 rfl rfl ?_
    refine xG_iload_n d_PK_of_6 rfl rfl ?_
    refine xG_isub d_PK_of_7 ?_
    refine xG_bipush (v := 6) d_PK_of_8 rfl ?_
    refine xG_icmp_le (tgt := 17) d_PK_of_10 (by decide) (fun c => ?_) (fun c => ?_)
    · have h := h.1 c
      refine xG_lconst (v := 0) d_PK_of_17 rfl ?_
      refine xG_lstore_n (lv' := [(3, xj 0), (0, xq v0), (1, xi v1), (2, xi v2)]) d_PK_of_18 rfl (Nat.le_of_ble_eq_true rfl) rfl ?_
      refine xG_iload_n d_PK_of_19 rfl rfl ?_
      refine xG_istore (lv' := [(5, xi v1), (3, xj 0), (0, xq v0), (1, xi v1), (2, xi v2)]) d_PK_of_20 (Nat.le_of_ble_eq_true rfl) rfl ?_
      refine xG_pick [2, 3, 4, 1, 0] rfl ?_
      exact h
    · have h := h.2 c
      refine xG_ldc2 (v := (-1)) d_PK_of_13 w2_205 ?_
      exact xG_lreturn d_PK_of_16 rfl ⟨rfl, hL, _, rfl, h⟩
set_option maxRecDepth 20000 in
theorem b_PK_of_22 {l : Launch} {V : xV} {Q : Int64 → xIt → xJt → xPt → Prop} {I : xIt} {J : xJt} {P : xPt} (hL : xL P) {v0 : Option Nat} {v1 : Int32} {v2 : Int32} {v3 : Int64} {v5 : Int32} (h : ((v2 ≤ v5 → Q v3 I J P) ∧ (¬ v2 ≤ v5 → (∃ a1 n1 : Nat, v0 = some a1 ∧ xS0[a1]? = some (64, n1) ∧ (vp_in v5 n1 ∧ (∃ Q2 : Int64 → xIt → xJt → xPt → Prop, xMet l V y_PK_append 1 0 0 [xj v3, xi (I a1 v5.toNatClampNeg)] xS0 I J P (xPl Q2) ∧ ∀ (z2 : Int64) (I2 : xIt) (J2 : xJt) (P2 : xPt), Q2 z2 I2 J2 P2 → G_PK_of l V Q 22 [(0, xq v0), (1, xi v1), (2, xi v2), (3, xj z2), (5, xi (v5 + 1))] [] I2 J2 P2)))))) : G_PK_of l V Q 22 [(0, xq v0), (1, xi v1), (2, xi v2), (3, xj v3), (5, xi v5)] [] I J P := by
  refine xG_iload d_PK_of_22 rfl ?_
  refine xG_iload_n d_PK_of_24 rfl rfl ?_
  refine xG_icmp_ge (tgt := 43) d_PK_of_25 (by decide) (fun c => ?_) (fun c => ?_)
  · have h := h.1 c
    refine xG_lload_n d_PK_of_43 rfl rfl ?_
    exact xG_lreturn d_PK_of_44 rfl ⟨rfl, hL, _, rfl, h⟩
  · have h := h.2 c
    refine xG_lload_n d_PK_of_28 rfl rfl ?_
    refine xG_aload_n d_PK_of_29 rfl rfl rfl ?_
    refine xG_iload d_PK_of_30 rfl ?_
    obtain ⟨a1, n1, e1, s1, h⟩ := h
    refine xG_iald d_PK_of_32 e1 s1 h.1 ?_
    have h := h.2
    obtain ⟨Q2, hM, h⟩ := h
    refine xG_calls (as := [xj v3, xi (I a1 v5.toNatClampNeg)]) (rest := []) d_PK_of_33 ys_PK_append w2_206 rfl rfl hM ⟨by decide, by decide⟩ (Nat.le_of_ble_eq_true rfl) ⟨Nat.zero_le _, Nat.zero_le _⟩ (fun r S2 I2 J2 P2 hp => ?_)
    obtain ⟨rfl, hL2, z2, rfl, hq⟩ := hp
    have h := h z2 I2 J2 P2 hq
    refine xG_lstore_n (lv' := [(3, xj z2), (0, xq v0), (1, xi v1), (2, xi v2), (5, xi v5)]) d_PK_of_36 rfl (Nat.le_of_ble_eq_true rfl) rfl ?_
    refine xG_iinc (v := v5 + 1) (lv' := [(5, xi (v5 + 1)), (3, xj z2), (0, xq v0), (1, xi v1), (2, xi v2)]) d_PK_of_37 rfl rfl (Nat.le_of_ble_eq_true rfl) rfl ?_
    refine xG_goto (tgt := 22) d_PK_of_40 (by decide) ?_
    refine xG_pick [2, 3, 4, 1, 0] rfl ?_
    exact h
theorem e_PK_of {l : Launch} {V : xV} {Q : Int64 → xIt → xJt → xPt → Prop} {I : xIt} {J : xJt} {P : xPt} {v0 : Option Nat} {v1 : Int32} {v2 : Int32} (h : G_PK_of l V Q 0 [(0, xq v0), (1, xi v1), (2, xi v2)] [] I J P) : xMet l V y_PK_of 2 0 0 [xq v0, xi v1, xi v2] xS0 I J P (xPl Q) := xMet_of (by decide) (Nat.le_of_ble_eq_true rfl) h

abbrev G_PK_numberOf (l : Launch) (V : xV) (Q : Int32 → xIt → xJt → xPt → Prop) (pc : Nat) (lv : List (Nat × xX)) (st : List xX) (I : xIt) (J : xJt) (P : xPt) : Prop := xG l V y_PK_numberOf (xR 1 0 0) (xFn V y_PK_numberOf (xR 1 0 0) (xPi Q)) pc lv st xS0 I J P (0, 0)
set_option maxRecDepth 20000 in
theorem b_PK_numberOf_0 {l : Launch} {V : xV} {Q : Int32 → xIt → xJt → xPt → Prop} {I : xIt} {J : xJt} {P : xPt} (hL : xL P) {v0 : Int64} (h : G_PK_numberOf l V Q 8 [(0, xj v0), (2, xi 1), (3, xi 0), (4, xi 40)] [] I J P) : G_PK_numberOf l V Q 0 [(0, xj v0)] [] I J P := by
  refine xG_iconst (v := 1) d_PK_numberOf_0 rfl ?_
  refine xG_istore_n (lv' := [(2, xi 1), (0, xj v0)]) d_PK_numberOf_1 rfl (Nat.le_of_ble_eq_true rfl) rfl ?_
  refine xG_iconst (v := 0) d_PK_numberOf_2 rfl ?_
  refine xG_istore_n (lv' := [(3, xi 0), (2, xi 1), (0, xj v0)]) d_PK_numberOf_3 rfl (Nat.le_of_ble_eq_true rfl) rfl ?_
  refine xG_bipush (v := 40) d_PK_numberOf_4 rfl ?_
  refine xG_istore (lv' := [(4, xi 40), (3, xi 0), (2, xi 1), (0, xj v0)]) d_PK_numberOf_6 (Nat.le_of_ble_eq_true rfl) rfl ?_
  refine xG_pick [3, 2, 1, 0] rfl ?_
  exact h
set_option maxRecDepth 20000 in
theorem b_PK_numberOf_8 {l : Launch} {V : xV} {Q : Int32 → xIt → xJt → xPt → Prop} {I : xIt} {J : xJt} {P : xPt} (hL : xL P) {v0 : Int64} {v2 : Int32} {v3 : Int32} {v4 : Int32} (h : ((v4 < 0 → Q (v2 * v3) I J P) ∧ (¬ v4 < 0 → ((¬ ((((v0.toUInt64 >>> (v4.toInt64.toUInt64 &&& Int64.toUInt64 63)).toInt64).toInt32) &&& 255) = 45 → ((((((v0.toUInt64 >>> (v4.toInt64.toUInt64 &&& Int64.toUInt64 63)).toInt64).toInt32) &&& 255) = 0 → G_PK_numberOf l V Q 8 [(0, xj v0), (2, xi v2), (3, xi v3), (4, xi (v4 + (-8)))] [] I J P) ∧ (¬ ((((v0.toUInt64 >>> (v4.toInt64.toUInt64 &&& Int64.toUInt64 63)).toInt64).toInt32) &&& 255) = 0 → G_PK_numberOf l V Q 8 [(0, xj v0), (2, xi v2), (3, xi (((10 * v3) + ((((v0.toUInt64 >>> (v4.toInt64.toUInt64 &&& Int64.toUInt64 63)).toInt64).toInt32) &&& 255)) - 48)), (4, xi (v4 + (-8)))] [] I J P))) ∧ (((((v0.toUInt64 >>> (v4.toInt64.toUInt64 &&& Int64.toUInt64 63)).toInt64).toInt32) &&& 255) = 45 → G_PK_numberOf l V Q 8 [(0, xj v0), (2, xi (-1)), (3, xi v3), (4, xi (v4 + (-8)))] [] I J P))))) : G_PK_numberOf l V Q 8 [(0, xj v0), (2, xi v2), (3, xi v3), (4, xi v4)] [] I J P := by
  refine xG_iload d_PK_numberOf_8 rfl ?_
  refine xG_if_lt (tgt := 58) d_PK_numberOf_10 (by decide) (fun c => ?_) (fun c => ?_)
  · have h := h.1 c
    refine xG_iload_n d_PK_numberOf_58 rfl rfl ?_
    refine xG_iload_n d_PK_numberOf_59 rfl rfl ?_
    refine xG_imul d_PK_numberOf_60 ?_
    exact xG_ireturn d_PK_numberOf_61 rfl rfl ⟨rfl, hL, _, rfl, h⟩
  · have h := h.2 c
    refine xG_lload_n d_PK_numberOf_13 rfl rfl ?_
    refine xG_iload d_PK_numberOf_14 rfl ?_
    refine xG_lushr d_PK_numberOf_16 ?_
    refine xG_l2i d_PK_numberOf_17 ?_
    refine xG_sipush (v := 255) d_PK_numberOf_18 rfl ?_
    refine xG_iand d_PK_numberOf_21 ?_
    refine xG_istore (lv' := [(5, xi ((((v0.toUInt64 >>> (v4.toInt64.toUInt64 &&& Int64.toUInt64 63)).toInt64).toInt32) &&& 255)), (0, xj v0), (2, xi v2), (3, xi v3), (4, xi v4)]) d_PK_numberOf_22 (Nat.le_of_ble_eq_true rfl) rfl ?_
    refine xG_iload d_PK_numberOf_24 rfl ?_
    refine xG_bipush (v := 45) d_PK_numberOf_26 rfl ?_
    refine xG_icmp_ne (tgt := 36) d_PK_numberOf_28 (by decide) (fun c => ?_) (fun c => ?_)
    · have h := h.1 c
      refine xG_iload d_PK_numberOf_36 rfl ?_
      refine xG_if_eq (tgt := 52) d_PK_numberOf_38 (by decide) (fun c => ?_) (fun c => ?_)
      · have h := h.1 c
        refine xG_iinc (v := v4 + (-8)) (lv' := [(4, xi (v4 + (-8))), (5, xi ((((v0.toUInt64 >>> (v4.toInt64.toUInt64 &&& Int64.toUInt64 63)).toInt64).toInt32) &&& 255)), (0, xj v0), (2, xi v2), (3, xi v3)]) d_PK_numberOf_52 rfl rfl (Nat.le_of_ble_eq_true rfl) rfl ?_
        refine xG_goto (tgt := 8) d_PK_numberOf_55 (by decide) ?_
        refine xG_pick [2, 3, 4, 0] rfl ?_
        exact h
      · have h := h.2 c
        refine xG_bipush (v := 10) d_PK_numberOf_41 rfl ?_
        refine xG_iload_n d_PK_numberOf_43 rfl rfl ?_
        refine xG_imul d_PK_numberOf_44 ?_
        refine xG_iload d_PK_numberOf_45 rfl ?_
        refine xG_iadd d_PK_numberOf_47 ?_
        refine xG_bipush (v := 48) d_PK_numberOf_48 rfl ?_
        refine xG_isub d_PK_numberOf_50 ?_
        refine xG_istore_n (lv' := [(3, xi (((10 * v3) + ((((v0.toUInt64 >>> (v4.toInt64.toUInt64 &&& Int64.toUInt64 63)).toInt64).toInt32) &&& 255)) - 48)), (5, xi ((((v0.toUInt64 >>> (v4.toInt64.toUInt64 &&& Int64.toUInt64 63)).toInt64).toInt32) &&& 255)), (0, xj v0), (2, xi v2), (4, xi v4)]) d_PK_numberOf_51 rfl (Nat.le_of_ble_eq_true rfl) rfl ?_
        refine xG_iinc (v := v4 + (-8)) (lv' := [(4, xi (v4 + (-8))), (3, xi (((10 * v3) + ((((v0.toUInt64 >>> (v4.toInt64.toUInt64 &&& Int64.toUInt64 63)).toInt64).toInt32) &&& 255)) - 48)), (5, xi ((((v0.toUInt64 >>> (v4.toInt64.toUInt64 &&& Int64.toUInt64 63)).toInt64).toInt32) &&& 255)), (0, xj v0), (2, xi v2)]) d_PK_numberOf_52 rfl rfl (Nat.le_of_ble_eq_true rfl) rfl ?_
        refine xG_goto (tgt := 8) d_PK_numberOf_55 (by decide) ?_
        refine xG_pick [3, 4, 1, 0] rfl ?_
        exact h
    · have h := h.2 c
      refine xG_iconst (v := (-1)) d_PK_numberOf_31 rfl ?_
      refine xG_istore_n (lv' := [(2, xi (-1)), (5, xi ((((v0.toUInt64 >>> (v4.toInt64.toUInt64 &&& Int64.toUInt64 63)).toInt64).toInt32) &&& 255)), (0, xj v0), (3, xi v3), (4, xi v4)]) d_PK_numberOf_32 rfl (Nat.le_of_ble_eq_true rfl) rfl ?_
      refine xG_goto (tgt := 52) d_PK_numberOf_33 (by decide) ?_
      refine xG_iinc (v := v4 + (-8)) (lv' := [(4, xi (v4 + (-8))), (2, xi (-1)), (5, xi ((((v0.toUInt64 >>> (v4.toInt64.toUInt64 &&& Int64.toUInt64 63)).toInt64).toInt32) &&& 255)), (0, xj v0), (3, xi v3)]) d_PK_numberOf_52 rfl rfl (Nat.le_of_ble_eq_true rfl) rfl ?_
      refine xG_goto (tgt := 8) d_PK_numberOf_55 (by decide) ?_
      refine xG_pick [3, 1, 4, 0] rfl ?_
      exact h
theorem e_PK_numberOf {l : Launch} {V : xV} {Q : Int32 → xIt → xJt → xPt → Prop} {I : xIt} {J : xJt} {P : xPt} {v0 : Int64} (h : G_PK_numberOf l V Q 0 [(0, xj v0)] [] I J P) : xMet l V y_PK_numberOf 1 0 0 [xj v0] xS0 I J P (xPi Q) := xMet_of (by decide) (Nat.le_of_ble_eq_true rfl) h

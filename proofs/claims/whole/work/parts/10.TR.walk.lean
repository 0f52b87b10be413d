abbrev G_TR_entryAt (l : Launch) (V : xV) (Q : Option Nat → xIt → xJt → xPt → Prop) (pc : Nat) (lv : List (Nat × xX)) (st : List xX) (I : xIt) (J : xJt) (P : xPt) : Prop := xG l V y_TR_entryAt (xR 1 0 0) (xFn V y_TR_entryAt (xR 1 0 0) (xPq Q)) pc lv st xS0 I J P (0, 0)
set_option maxRecDepth 20000 in
theorem b_TR_entryAt_0 {l : Launch} {V : xV} {Q : Option Nat → xIt → xJt → xPt → Prop} {I : xIt} {J : xJt} {P : xPt} (hL : xL P) {v1 : Int32} (h : ((v1 < 0 → Q none I J P) ∧ (¬ v1 < 0 → (((I 21 1) ≤ v1 → Q none I J P) ∧ (¬ (I 21 1) ≤ v1 → (vp_in v1 12 ∧ Q (P 22 v1.toNatClampNeg) I J P)))))) : G_TR_entryAt l V Q 0 [(0, xq (some 21)), (1, xi v1)] [] I J P := by
  refine xG_iload_n d_TR_entryAt_0 rfl rfl ?_
  refine xG_if_lt (tgt := 21) d_TR_entryAt_1 (by decide) (fun c => ?_) (fun c => ?_)
  · have h := h.1 c
    refine xG_null d_TR_entryAt_21 ?_
    exact xG_areturn d_TR_entryAt_22 rfl ⟨rfl, hL, _, rfl, h⟩
  · have h := h.2 c
    refine xG_iload_n d_TR_entryAt_4 rfl rfl ?_
    refine xG_aload_n d_TR_entryAt_5 rfl rfl rfl ?_
    refine xG_geti d_TR_entryAt_6 xf_TR_17 rfl s0_21 ?_
    refine xG_icmp_ge (tgt := 21) d_TR_entryAt_9 (by decide) (fun c => ?_) (fun c => ?_)
    · have h := h.1 c
      refine xG_null d_TR_entryAt_21 ?_
      exact xG_areturn d_TR_entryAt_22 rfl ⟨rfl, hL, _, rfl, h⟩
    · have h := h.2 c
      refine xG_aload_n d_TR_entryAt_12 rfl rfl rfl ?_
      refine xG_getq d_TR_entryAt_13 xf_TR_11 rfl s0_21 ?_
      refine xG_iload_n d_TR_entryAt_16 rfl rfl ?_
      refine xG_aald (t := 1) d_TR_entryAt_17 (lp_21_0 hL) s0_22 rfl h.1 ?_
      have h := h.2
      refine xG_goto (tgt := 22) d_TR_entryAt_18 (by decide) ?_
      exact xG_areturn d_TR_entryAt_22 rfl ⟨rfl, hL, _, rfl, h⟩
theorem e_TR_entryAt {l : Launch} {V : xV} {Q : Option Nat → xIt → xJt → xPt → Prop} {I : xIt} {J : xJt} {P : xPt} {v1 : Int32} (h : G_TR_entryAt l V Q 0 [(0, xq (some 21)), (1, xi v1)] [] I J P) : xMet l V y_TR_entryAt 1 0 0 [xq (some 21), xi v1] xS0 I J P (xPq Q) := xMet_of (by decide) (Nat.le_of_ble_eq_true rfl) h

abbrev G_TR_placeOf (l : Launch) (V : xV) (Q : Int32 → xIt → xJt → xPt → Prop) (pc : Nat) (lv : List (Nat × xX)) (st : List xX) (I : xIt) (J : xJt) (P : xPt) : Prop := xG l V y_TR_placeOf (xR 1 0 0) (xFn V y_TR_placeOf (xR 1 0 0) (xPi Q)) pc lv st xS0 I J P (0, 0)
set_option maxRecDepth 20000 in
theorem b_TR_placeOf_0 {l : Launch} {V : xV} {Q : Int32 → xIt → xJt → xPt → Prop} {I : xIt} {J : xJt} {P : xPt} (hL : xL P) {v1 : Option Nat} (h : G_TR_placeOf l V Q 2 [(0, xq (some 21)), (1, xq v1), (2, xi 0)] [] I J P) : G_TR_placeOf l V Q 0 [(0, xq (some 21)), (1, xq v1)] [] I J P := by
  refine xG_iconst (v := 0) d_TR_placeOf_0 rfl ?_
  refine xG_istore_n (lv' := [(2, xi 0), (0, xq (some 21)), (1, xq v1)]) d_TR_placeOf_1 rfl (Nat.le_of_ble_eq_true rfl) rfl ?_
  refine xG_pick [1, 2, 0] rfl ?_
  exact h
set_option maxRecDepth 20000 in
theorem b_TR_placeOf_2 {l : Launch} {V : xV} {Q : Int32 → xIt → xJt → xPt → Prop} {I : xIt} {J : xJt} {P : xPt} (hL : xL P) {v1 : Option Nat} {v2 : Int32} (h : (((I 21 1) ≤ v2 → Q (-1) I J P) ∧ (¬ (I 21 1) ≤ v2 → (vp_in v2 12 ∧ ((¬ P 22 v2.toNatClampNeg = v1 → G_TR_placeOf l V Q 2 [(0, xq (some 21)), (1, xq v1), (2, xi (v2 + 1))] [] I J P) ∧ (P 22 v2.toNatClampNeg = v1 → Q v2 I J P)))))) : G_TR_placeOf l V Q 2 [(0, xq (some 21)), (1, xq v1), (2, xi v2)] [] I J P := by
  refine xG_iload_n d_TR_placeOf_2 rfl rfl ?_
  refine xG_aload_n d_TR_placeOf_3 rfl rfl rfl ?_
  refine xG_geti d_TR_placeOf_4 xf_TR_17 rfl s0_21 ?_
  refine xG_icmp_ge (tgt := 28) d_TR_placeOf_7 (by decide) (fun c => ?_) (fun c => ?_)
  · have h := h.1 c
    refine xG_iconst (v := (-1)) d_TR_placeOf_28 rfl ?_
    exact xG_ireturn d_TR_placeOf_29 rfl rfl ⟨rfl, hL, _, rfl, h⟩
  · have h := h.2 c
    refine xG_aload_n d_TR_placeOf_10 rfl rfl rfl ?_
    refine xG_getq d_TR_placeOf_11 xf_TR_11 rfl s0_21 ?_
    refine xG_iload_n d_TR_placeOf_14 rfl rfl ?_
    refine xG_aald (t := 1) d_TR_placeOf_15 (lp_21_0 hL) s0_22 rfl h.1 ?_
    have h := h.2
    refine xG_aload_n d_TR_placeOf_16 rfl rfl rfl ?_
    refine xG_acmp_ne (tgt := 22) d_TR_placeOf_17 (by decide) (fun c => ?_) (fun c => ?_)
    · have h := h.1 c
      refine xG_iinc (v := v2 + 1) (lv' := [(2, xi (v2 + 1)), (0, xq (some 21)), (1, xq v1)]) d_TR_placeOf_22 rfl rfl (Nat.le_of_ble_eq_true rfl) rfl ?_
      refine xG_goto (tgt := 2) d_TR_placeOf_25 (by decide) ?_
      refine xG_pick [1, 2, 0] rfl ?_
      exact h
    · have h := h.2 c
      refine xG_iload_n d_TR_placeOf_20 rfl rfl ?_
      exact xG_ireturn d_TR_placeOf_21 rfl rfl ⟨rfl, hL, _, rfl, h⟩
theorem e_TR_placeOf {l : Launch} {V : xV} {Q : Int32 → xIt → xJt → xPt → Prop} {I : xIt} {J : xJt} {P : xPt} {v1 : Option Nat} (h : G_TR_placeOf l V Q 0 [(0, xq (some 21)), (1, xq v1)] [] I J P) : xMet l V y_TR_placeOf 1 0 0 [xq (some 21), xq v1] xS0 I J P (xPi Q) := xMet_of (by decide) (Nat.le_of_ble_eq_true rfl) h

abbrev G_TR_childOf (l : Launch) (V : xV) (Q : Option Nat → xIt → xJt → xPt → Prop) (pc : Nat) (lv : List (Nat × xX)) (st : List xX) (I : xIt) (J : xJt) (P : xPt) : Prop := xG l V y_TR_childOf (xR 2 0 0) (xFn V y_TR_childOf (xR 2 0 0) (xPq Q)) pc lv st xS0 I J P (0, 0)
set_option maxRecDepth 20000 in
theorem b_TR_childOf_0 {l : Launch} {V : xV} {Q : Option Nat → xIt → xJt → xPt → Prop} {I : xIt} {J : xJt} {P : xPt} (hL : xL P) {v1 : Option Nat} {v2 : Int32} {v3 : Int64} (h : G_TR_childOf l V Q 3 [(0, xq (some 21)), (1, xq v1), (2, xi v2), (3, xj v3), (5, xi 0)] [] I J P) : G_TR_childOf l V Q 0 [(0, xq (some 21)), (1, xq v1), (2, xi v2), (3, xj v3)] [] I J P := by
  refine xG_iconst (v := 0) d_TR_childOf_0 rfl ?_
  refine xG_istore (lv' := [(5, xi 0), (0, xq (some 21)), (1, xq v1), (2, xi v2), (3, xj v3)]) d_TR_childOf_1 (Nat.le_of_ble_eq_true rfl) rfl ?_
  refine xG_pick [1, 2, 3, 4, 0] rfl ?_
  exact h
set_option maxRecDepth 20000 in
theorem b_TR_childOf_3 {l : Launch} {V : xV} {Q : Option Nat → xIt → xJt → xPt → Prop} {I : xIt} {J : xJt} {P : xPt} (hL : xL P) {v1 : Option Nat} {v2 : Int32} {v3 : Int64} {v5 : Int32} (h : (((I 21 1) ≤ v5 → Q none I J P) ∧ (¬ (I 21 1) ≤ v5 → (vp_in v5 12 ∧ (∃ a1 : Nat, P 22 v5.toNatClampNeg = some a1 ∧ xS0[a1]? = some (5, 0) ∧ ((¬ P a1 1 = v1 → G_TR_childOf l V Q 3 [(0, xq (some 21)), (1, xq v1), (2, xi v2), (3, xj v3), (5, xi (v5 + 1))] [] I J P) ∧ (P a1 1 = v1 → (∃ Q2 : Int32 → xIt → xJt → xPt → Prop, xMet l V y_EN_isNamed 1 0 0 [xq (some a1), xi v2, xj v3] xS0 I J P (xPi Q2) ∧ ∀ (z2 : Int32) (I2 : xIt) (J2 : xJt) (P2 : xPt), Q2 z2 I2 J2 P2 → ((z2 = 0 → G_TR_childOf l V Q 3 [(0, xq (some 21)), (1, xq v1), (2, xi v2), (3, xj v3), (5, xi (v5 + 1))] [] I2 J2 P2) ∧ (¬ z2 = 0 → Q (P 22 v5.toNatClampNeg) I2 J2 P2)))))))))) : G_TR_childOf l V Q 3 [(0, xq (some 21)), (1, xq v1), (2, xi v2), (3, xj v3), (5, xi v5)] [] I J P := by
  refine xG_iload d_TR_childOf_3 rfl ?_
  refine xG_aload_n d_TR_childOf_5 rfl rfl rfl ?_
  refine xG_geti d_TR_childOf_6 xf_TR_17 rfl s0_21 ?_
  refine xG_icmp_ge (tgt := 49) d_TR_childOf_9 (by decide) (fun c => ?_) (fun c => ?_)
  · have h := h.1 c
    refine xG_null d_TR_childOf_49 ?_
    exact xG_areturn d_TR_childOf_50 rfl ⟨rfl, hL, _, rfl, h⟩
  · have h := h.2 c
    refine xG_aload_n d_TR_childOf_12 rfl rfl rfl ?_
    refine xG_getq d_TR_childOf_13 xf_TR_11 rfl s0_21 ?_
    refine xG_iload d_TR_childOf_16 rfl ?_
    refine xG_aald (t := 1) d_TR_childOf_18 (lp_21_0 hL) s0_22 rfl h.1 ?_
    have h := h.2
    refine xG_astore (lv' := [(6, xq (P 22 v5.toNatClampNeg)), (0, xq (some 21)), (1, xq v1), (2, xi v2), (3, xj v3), (5, xi v5)]) d_TR_childOf_19 (Nat.le_of_ble_eq_true rfl) rfl rfl ?_
    refine xG_aload d_TR_childOf_21 rfl rfl ?_
    obtain ⟨a1, e1, s1, h⟩ := h
    refine xG_getq d_TR_childOf_23 xf_TR_24 e1 s1 ?_
    refine xG_aload_n d_TR_childOf_26 rfl rfl rfl ?_
    refine xG_acmp_ne (tgt := 43) d_TR_childOf_27 (by decide) (fun c => ?_) (fun c => ?_)
    · have h := h.1 c
      refine xG_iinc (v := v5 + 1) (lv' := [(5, xi (v5 + 1)), (6, xq (P 22 v5.toNatClampNeg)), (0, xq (some 21)), (1, xq v1), (2, xi v2), (3, xj v3)]) d_TR_childOf_43 rfl rfl (Nat.le_of_ble_eq_true rfl) rfl ?_
      refine xG_goto (tgt := 3) d_TR_childOf_46 (by decide) ?_
      refine xG_pick [2, 3, 4, 5, 0] rfl ?_
      exact h
    · have h := h.2 c
      refine xG_aload d_TR_childOf_30 rfl rfl ?_
      refine xG_iload_n d_TR_childOf_32 rfl rfl ?_
      refine xG_lload_n d_TR_childOf_33 rfl rfl ?_
      obtain ⟨Q2, hM, h⟩ := h
      refine xG_callv (as := [xi v2, xj v3]) (rest := []) d_TR_childOf_34 yv_EN_isNamed w2_186 rfl e1 rfl s1 (by decide) rfl hM ⟨by decide, by decide⟩ (Nat.le_of_ble_eq_true rfl) ⟨Nat.zero_le _, Nat.zero_le _⟩ (fun r S2 I2 J2 P2 hp => ?_)
      obtain ⟨rfl, hL2, z2, rfl, hq⟩ := hp
      have h := h z2 I2 J2 P2 hq
      refine xG_if_eq (tgt := 43) d_TR_childOf_37 (by decide) (fun c => ?_) (fun c => ?_)
      · have h := h.1 c
        refine xG_iinc (v := v5 + 1) (lv' := [(5, xi (v5 + 1)), (6, xq (P 22 v5.toNatClampNeg)), (0, xq (some 21)), (1, xq v1), (2, xi v2), (3, xj v3)]) d_TR_childOf_43 rfl rfl (Nat.le_of_ble_eq_true rfl) rfl ?_
        refine xG_goto (tgt := 3) d_TR_childOf_46 (by decide) ?_
        refine xG_pick [2, 3, 4, 5, 0] rfl ?_
        exact h
      · have h := h.2 c
        refine xG_aload d_TR_childOf_40 rfl rfl ?_
        exact xG_areturn d_TR_childOf_42 rfl ⟨rfl, hL2, _, rfl, h⟩
theorem e_TR_childOf {l : Launch} {V : xV} {Q : Option Nat → xIt → xJt → xPt → Prop} {I : xIt} {J : xJt} {P : xPt} {v1 : Option Nat} {v2 : Int32} {v3 : Int64} (h : G_TR_childOf l V Q 0 [(0, xq (some 21)), (1, xq v1), (2, xi v2), (3, xj v3)] [] I J P) : xMet l V y_TR_childOf 2 0 0 [xq (some 21), xq v1, xi v2, xj v3] xS0 I J P (xPq Q) := xMet_of (by decide) (Nat.le_of_ble_eq_true rfl) h

abbrev G_TR_find (l : Launch) (V : xV) (Q : Option Nat → xIt → xJt → xPt → Prop) (pc : Nat) (lv : List (Nat × xX)) (st : List xX) (I : xIt) (J : xJt) (P : xPt) : Prop := xG l V y_TR_find (xR 3 0 0) (xFn V y_TR_find (xR 3 0 0) (xPq Q)) pc lv st xS0 I J P (0, 0)
set_option maxRecDepth 20000 in
theorem b_TR_find_0 {l : Launch} {V : xV} {Q : Option Nat → xIt → xJt → xPt → Prop} {I : xIt} {J : xJt} {P : xPt} (hL : xL P) {v1 : Option Nat} {v2 : Int32} (h : (∃ a1 : Nat, v1 = some a1 ∧ xS0[a1]? = some (3, 0) ∧ G_TR_find l V Q 10 [(0, xq (some 21)), (1, xq v1), (2, xi v2), (3, xq none), (4, xi ((I a1 3) - 1))] [] I J P)) : G_TR_find l V Q 0 [(0, xq (some 21)), (1, xq v1), (2, xi v2)] [] I J P := by
  refine xG_null d_TR_find_0 ?_
  refine xG_astore_n (lv' := [(3, xq none), (0, xq (some 21)), (1, xq v1), (2, xi v2)]) d_TR_find_1 rfl (Nat.le_of_ble_eq_true rfl) rfl rfl ?_
  refine xG_aload_n d_TR_find_2 rfl rfl rfl ?_
  obtain ⟨a1, e1, s1, h⟩ := h
  refine xG_geti d_TR_find_3 xf_TR_32 e1 s1 ?_
  refine xG_iconst (v := 1) d_TR_find_6 rfl ?_
  refine xG_isub d_TR_find_7 ?_
  refine xG_istore (lv' := [(4, xi ((I a1 3) - 1)), (3, xq none), (0, xq (some 21)), (1, xq v1), (2, xi v2)]) d_TR_find_8 (Nat.le_of_ble_eq_true rfl) rfl ?_
  refine xG_pick [2, 3, 4, 1, 0] rfl ?_
  exact h
set_option maxRecDepth 20000 in
theorem b_TR_find_10 {l : Launch} {V : xV} {Q : Option Nat → xIt → xJt → xPt → Prop} {I : xIt} {J : xJt} {P : xPt} (hL : xL P) {v1 : Option Nat} {v2 : Int32} {v3 : Option Nat} {v4 : Int32} (h : ((v4 < v2 → Q v3 I J P) ∧ (¬ v4 < v2 → (∃ a1 : Nat, v1 = some a1 ∧ xS0[a1]? = some (3, 0) ∧ (vp_in v4 3 ∧ (vp_in v4 3 ∧ (∃ Q2 : Option Nat → xIt → xJt → xPt → Prop, xMet l V y_TR_childOf 2 0 0 [xq (some 21), xq v3, xi (I (a1 + 1) v4.toNatClampNeg), xj (J (a1 + 3) v4.toNatClampNeg)] xS0 I J P (xPq Q2) ∧ ∀ (z2 : Option Nat) (I2 : xIt) (J2 : xJt) (P2 : xPt), Q2 z2 I2 J2 P2 → ((¬ z2 = none → G_TR_find l V Q 10 [(0, xq (some 21)), (1, xq v1), (2, xi v2), (3, xq z2), (4, xi (v4 + (-1)))] [] I2 J2 P2) ∧ (z2 = none → Q none I2 J2 P2))))))))) : G_TR_find l V Q 10 [(0, xq (some 21)), (1, xq v1), (2, xi v2), (3, xq v3), (4, xi v4)] [] I J P := by
  refine xG_iload d_TR_find_10 rfl ?_
  refine xG_iload_n d_TR_find_12 rfl rfl ?_
  refine xG_icmp_lt (tgt := 48) d_TR_find_13 (by decide) (fun c => ?_) (fun c => ?_)
  · have h := h.1 c
    refine xG_aload_n d_TR_find_48 rfl rfl rfl ?_
    exact xG_areturn d_TR_find_49 rfl ⟨rfl, hL, _, rfl, h⟩
  · have h := h.2 c
    refine xG_aload_n d_TR_find_16 rfl rfl rfl ?_
    refine xG_aload_n d_TR_find_17 rfl rfl rfl ?_
    refine xG_aload_n d_TR_find_18 rfl rfl rfl ?_
    obtain ⟨a1, e1, s1, h⟩ := h
    refine xG_getq d_TR_find_19 xf_TR_37 e1 s1 ?_
    refine xG_iload d_TR_find_22 rfl ?_
    refine xG_iald d_TR_find_24 (lo_3_0 hL s1) (so_3_0 s1) h.1 ?_
    have h := h.2
    refine xG_aload_n d_TR_find_25 rfl rfl rfl ?_
    refine xG_getq d_TR_find_26 xf_TR_41 e1 s1 ?_
    refine xG_iload d_TR_find_29 rfl ?_
    refine xG_lald d_TR_find_31 (lo_3_2 hL s1) (so_3_2 s1) h.1 ?_
    have h := h.2
    obtain ⟨Q2, hM, h⟩ := h
    refine xG_callv (as := [xq v3, xi (I (a1 + 1) v4.toNatClampNeg), xj (J (a1 + 3) v4.toNatClampNeg)]) (rest := []) d_TR_find_32 yv_TR_childOf w2_182 rfl rfl rfl s0_21 (by decide) rfl hM ⟨by decide, by decide⟩ (Nat.le_of_ble_eq_true rfl) ⟨Nat.zero_le _, Nat.zero_le _⟩ (fun r S2 I2 J2 P2 hp => ?_)
    obtain ⟨rfl, hL2, z2, rfl, hq⟩ := hp
    have h := h z2 I2 J2 P2 hq
    refine xG_astore_n (lv' := [(3, xq z2), (0, xq (some 21)), (1, xq v1), (2, xi v2), (4, xi v4)]) d_TR_find_35 rfl (Nat.le_of_ble_eq_true rfl) rfl rfl ?_
    refine xG_aload_n d_TR_find_36 rfl rfl rfl ?_
    refine xG_ifnonnull (tgt := 42) d_TR_find_37 (by decide) (fun c => ?_) (fun c => ?_)
    · have h := h.1 c
      refine xG_iinc (v := v4 + (-1)) (lv' := [(4, xi (v4 + (-1))), (3, xq z2), (0, xq (some 21)), (1, xq v1), (2, xi v2)]) d_TR_find_42 rfl rfl (Nat.le_of_ble_eq_true rfl) rfl ?_
      refine xG_goto (tgt := 10) d_TR_find_45 (by decide) ?_
      refine xG_pick [2, 3, 4, 1, 0] rfl ?_
      exact h
    · have h := h.2 c
      refine xG_null d_TR_find_40 ?_
      exact xG_areturn d_TR_find_41 rfl ⟨rfl, hL2, _, rfl, h⟩
theorem e_TR_find {l : Launch} {V : xV} {Q : Option Nat → xIt → xJt → xPt → Prop} {I : xIt} {J : xJt} {P : xPt} {v1 : Option Nat} {v2 : Int32} (h : G_TR_find l V Q 0 [(0, xq (some 21)), (1, xq v1), (2, xi v2)] [] I J P) : xMet l V y_TR_find 3 0 0 [xq (some 21), xq v1, xi v2] xS0 I J P (xPq Q) := xMet_of (by decide) (Nat.le_of_ble_eq_true rfl) h

abbrev G_TR_hasBelow (l : Launch) (V : xV) (Q : Int32 → xIt → xJt → xPt → Prop) (pc : Nat) (lv : List (Nat × xX)) (st : List xX) (I : xIt) (J : xJt) (P : xPt) : Prop := xG l V y_TR_hasBelow (xR 1 0 0) (xFn V y_TR_hasBelow (xR 1 0 0) (xPi Q)) pc lv st xS0 I J P (0, 0)
set_option maxRecDepth 20000 in
theorem b_TR_hasBelow_0 {l : Launch} {V : xV} {Q : Int32 → xIt → xJt → xPt → Prop} {I : xIt} {J : xJt} {P : xPt} (hL : xL P) {v1 : Option Nat} (h : G_TR_hasBelow l V Q 2 [(0, xq (some 21)), (1, xq v1), (2, xi 0)] [] I J P) : G_TR_hasBelow l V Q 0 [(0, xq (some 21)), (1, xq v1)] [] I J P := by
  refine xG_iconst (v := 0) d_TR_hasBelow_0 rfl ?_
  refine xG_istore_n (lv' := [(2, xi 0), (0, xq (some 21)), (1, xq v1)]) d_TR_hasBelow_1 rfl (Nat.le_of_ble_eq_true rfl) rfl ?_
  refine xG_pick [1, 2, 0] rfl ?_
  exact h
set_option maxRecDepth 20000 in
theorem b_TR_hasBelow_2 {l : Launch} {V : xV} {Q : Int32 → xIt → xJt → xPt → Prop} {I : xIt} {J : xJt} {P : xPt} (hL : xL P) {v1 : Option Nat} {v2 : Int32} (h : (((I 21 1) ≤ v2 → Q 0 I J P) ∧ (¬ (I 21 1) ≤ v2 → (vp_in v2 12 ∧ (∃ a1 : Nat, P 22 v2.toNatClampNeg = some a1 ∧ xS0[a1]? = some (5, 0) ∧ ((¬ P a1 1 = v1 → G_TR_hasBelow l V Q 2 [(0, xq (some 21)), (1, xq v1), (2, xi (v2 + 1))] [] I J P) ∧ (P a1 1 = v1 → Q 1 I J P))))))) : G_TR_hasBelow l V Q 2 [(0, xq (some 21)), (1, xq v1), (2, xi v2)] [] I J P := by
  refine xG_iload_n d_TR_hasBelow_2 rfl rfl ?_
  refine xG_aload_n d_TR_hasBelow_3 rfl rfl rfl ?_
  refine xG_geti d_TR_hasBelow_4 xf_TR_17 rfl s0_21 ?_
  refine xG_icmp_ge (tgt := 31) d_TR_hasBelow_7 (by decide) (fun c => ?_) (fun c => ?_)
  · have h := h.1 c
    refine xG_iconst (v := 0) d_TR_hasBelow_31 rfl ?_
    exact xG_ireturn d_TR_hasBelow_32 rfl rfl ⟨rfl, hL, _, rfl, h⟩
  · have h := h.2 c
    refine xG_aload_n d_TR_hasBelow_10 rfl rfl rfl ?_
    refine xG_getq d_TR_hasBelow_11 xf_TR_11 rfl s0_21 ?_
    refine xG_iload_n d_TR_hasBelow_14 rfl rfl ?_
    refine xG_aald (t := 1) d_TR_hasBelow_15 (lp_21_0 hL) s0_22 rfl h.1 ?_
    have h := h.2
    obtain ⟨a1, e1, s1, h⟩ := h
    refine xG_getq d_TR_hasBelow_16 xf_TR_24 e1 s1 ?_
    refine xG_aload_n d_TR_hasBelow_19 rfl rfl rfl ?_
    refine xG_acmp_ne (tgt := 25) d_TR_hasBelow_20 (by decide) (fun c => ?_) (fun c => ?_)
    · have h := h.1 c
      refine xG_iinc (v := v2 + 1) (lv' := [(2, xi (v2 + 1)), (0, xq (some 21)), (1, xq v1)]) d_TR_hasBelow_25 rfl rfl (Nat.le_of_ble_eq_true rfl) rfl ?_
      refine xG_goto (tgt := 2) d_TR_hasBelow_28 (by decide) ?_
      refine xG_pick [1, 2, 0] rfl ?_
      exact h
    · have h := h.2 c
      refine xG_iconst (v := 1) d_TR_hasBelow_23 rfl ?_
      exact xG_ireturn d_TR_hasBelow_24 rfl rfl ⟨rfl, hL, _, rfl, h⟩
theorem e_TR_hasBelow {l : Launch} {V : xV} {Q : Int32 → xIt → xJt → xPt → Prop} {I : xIt} {J : xJt} {P : xPt} {v1 : Option Nat} (h : G_TR_hasBelow l V Q 0 [(0, xq (some 21)), (1, xq v1)] [] I J P) : xMet l V y_TR_hasBelow 1 0 0 [xq (some 21), xq v1] xS0 I J P (xPi Q) := xMet_of (by decide) (Nat.le_of_ble_eq_true rfl) h

abbrev G_TR_isFull (l : Launch) (V : xV) (Q : Int32 → xIt → xJt → xPt → Prop) (pc : Nat) (lv : List (Nat × xX)) (st : List xX) (I : xIt) (J : xJt) (P : xPt) : Prop := xG l V y_TR_isFull (xR 1 0 0) (xFn V y_TR_isFull (xR 1 0 0) (xPi Q)) pc lv st xS0 I J P (0, 0)
set_option maxRecDepth 20000 in
theorem b_TR_isFull_0 {l : Launch} {V : xV} {Q : Int32 → xIt → xJt → xPt → Prop} {I : xIt} {J : xJt} {P : xPt} (hL : xL P)  (h : ((¬ (I 21 1) = 12 → Q 0 I J P) ∧ ((I 21 1) = 12 → Q 1 I J P))) : G_TR_isFull l V Q 0 [(0, xq (some 21))] [] I J P := by
  refine xG_aload_n d_TR_isFull_0 rfl rfl rfl ?_
  refine xG_geti d_TR_isFull_1 xf_TR_17 rfl s0_21 ?_
  refine xG_bipush (v := 12) d_TR_isFull_4 rfl ?_
  refine xG_icmp_ne (tgt := 13) d_TR_isFull_6 (by decide) (fun c => ?_) (fun c => ?_)
  · have h := h.1 c
    refine xG_iconst (v := 0) d_TR_isFull_13 rfl ?_
    exact xG_ireturn d_TR_isFull_14 rfl rfl ⟨rfl, hL, _, rfl, h⟩
  · have h := h.2 c
    refine xG_iconst (v := 1) d_TR_isFull_9 rfl ?_
    refine xG_goto (tgt := 14) d_TR_isFull_10 (by decide) ?_
    exact xG_ireturn d_TR_isFull_14 rfl rfl ⟨rfl, hL, _, rfl, h⟩
theorem e_TR_isFull {l : Launch} {V : xV} {Q : Int32 → xIt → xJt → xPt → Prop} {I : xIt} {J : xJt} {P : xPt}  (h : G_TR_isFull l V Q 0 [(0, xq (some 21))] [] I J P) : xMet l V y_TR_isFull 1 0 0 [xq (some 21)] xS0 I J P (xPi Q) := xMet_of (by decide) (Nat.le_of_ble_eq_true rfl) h

abbrev G_TR_addCopy (l : Launch) (V : xV) (Q : xIt → xJt → xPt → Prop) (pc : Nat) (lv : List (Nat × xX)) (st : List xX) (I : xIt) (J : xJt) (P : xPt) : Prop := xG l V y_TR_addCopy (xR 4 0 0) (xFn V y_TR_addCopy (xR 4 0 0) (xPv Q)) pc lv st xS0 I J P (0, 0)
set_option maxRecDepth 20000 in
theorem b_TR_addCopy_0 {l : Launch} {V : xV} {Q : xIt → xJt → xPt → Prop} {I : xIt} {J : xJt} {P : xPt} (hL : xL P) {v1 : Option Nat} (h : (∃ Q1 : Int32 → xIt → xJt → xPt → Prop, xMet l V y_TR_isFull 1 0 0 [xq (some 21)] xS0 I J P (xPi Q1) ∧ ∀ (z1 : Int32) (I1 : xIt) (J1 : xJt) (P1 : xPt), Q1 z1 I1 J1 P1 → ((¬ z1 = 0 → Q I1 J1 P1) ∧ (z1 = 0 → (vp_in (I1 21 1) 12 ∧ (∃ a2 : Nat, P1 22 ((I1 21 1).toNatClampNeg) = some a2 ∧ xS0[a2]? = some (5, 0) ∧ (∃ Q3 : xIt → xJt → xPt → Prop, xMet l V y_EN_copy 3 0 0 [xq (some a2), xq v1] xS0 I1 J1 P1 (xPv Q3) ∧ ∀ (I3 : xIt) (J3 : xJt) (P3 : xPt), Q3 I3 J3 P3 → Q (xu I3 21 1 ((I3 21 1) + 1)) J3 P3))))))) : G_TR_addCopy l V Q 0 [(0, xq (some 21)), (1, xq v1)] [] I J P := by
  refine xG_aload_n d_TR_addCopy_0 rfl rfl rfl ?_
  obtain ⟨Q1, hM, h⟩ := h
  refine xG_callv (as := []) (rest := []) d_TR_addCopy_1 yv_TR_isFull w3_115 rfl rfl rfl s0_21 (by decide) rfl hM ⟨by decide, by decide⟩ (Nat.le_of_ble_eq_true rfl) ⟨Nat.zero_le _, Nat.zero_le _⟩ (fun r S1 I1 J1 P1 hp => ?_)
  obtain ⟨rfl, hL1, z1, rfl, hq⟩ := hp
  have h := h z1 I1 J1 P1 hq
  refine xG_if_ne (tgt := 30) d_TR_addCopy_4 (by decide) (fun c => ?_) (fun c => ?_)
  · have h := h.1 c
    exact xG_return d_TR_addCopy_30 rfl ⟨rfl, hL1, rfl, h⟩
  · have h := h.2 c
    refine xG_aload_n d_TR_addCopy_7 rfl rfl rfl ?_
    refine xG_getq d_TR_addCopy_8 xf_TR_11 rfl s0_21 ?_
    refine xG_aload_n d_TR_addCopy_11 rfl rfl rfl ?_
    refine xG_geti d_TR_addCopy_12 xf_TR_17 rfl s0_21 ?_
    refine xG_aald (t := 1) d_TR_addCopy_15 (lp_21_0 hL1) s0_22 rfl h.1 ?_
    have h := h.2
    refine xG_topq (x' := P1 22 ((I1 21 1).toNatClampNeg)) (by first | rfl | exact xu_at | simp [xu]) ?_
    refine xG_aload_n d_TR_addCopy_16 rfl rfl rfl ?_
    obtain ⟨a2, e2, s2, h⟩ := h
    obtain ⟨Q3, hM, h⟩ := h
    refine xG_callv (as := [xq v1]) (rest := []) d_TR_addCopy_17 yv_EN_copy w3_116 rfl e2 rfl s2 (by decide) rfl hM ⟨by decide, by decide⟩ (Nat.le_of_ble_eq_true rfl) ⟨Nat.zero_le _, Nat.zero_le _⟩ (fun r S3 I3 J3 P3 hp => ?_)
    obtain ⟨rfl, hL3, rfl, hq⟩ := hp
    have h := h I3 J3 P3 hq
    refine xG_aload_n d_TR_addCopy_20 rfl rfl rfl ?_
    refine xG_dup d_TR_addCopy_21 rfl ?_
    refine xG_geti d_TR_addCopy_22 xf_TR_17 rfl s0_21 ?_
    refine xG_iconst (v := 1) d_TR_addCopy_25 rfl ?_
    refine xG_iadd d_TR_addCopy_26 ?_
    refine xG_puti d_TR_addCopy_27 xf_TR_17 (Or.inl rfl) rfl s0_21 rfl rfl ?_
    exact xG_return d_TR_addCopy_30 rfl ⟨rfl, hL3, rfl, h⟩
theorem e_TR_addCopy {l : Launch} {V : xV} {Q : xIt → xJt → xPt → Prop} {I : xIt} {J : xJt} {P : xPt} {v1 : Option Nat} (h : G_TR_addCopy l V Q 0 [(0, xq (some 21)), (1, xq v1)] [] I J P) : xMet l V y_TR_addCopy 4 0 0 [xq (some 21), xq v1] xS0 I J P (xPv Q) := xMet_of (by decide) (Nat.le_of_ble_eq_true rfl) h

abbrev G_TR_remove (l : Launch) (V : xV) (Q : xIt → xJt → xPt → Prop) (pc : Nat) (lv : List (Nat × xX)) (st : List xX) (I : xIt) (J : xJt) (P : xPt) : Prop := xG l V y_TR_remove (xR 3 0 0) (xFn V y_TR_remove (xR 3 0 0) (xPv Q)) pc lv st xS0 I J P (0, 0)
set_option maxRecDepth 20000 in
theorem b_TR_remove_0 {l : Launch} {V : xV} {Q : xIt → xJt → xPt → Prop} {I : xIt} {J : xJt} {P : xPt} (hL : xL P) {v1 : Option Nat} (h : (∃ Q1 : Int32 → xIt → xJt → xPt → Prop, xMet l V y_TR_placeOf 1 0 0 [xq (some 21), xq v1] xS0 I J P (xPi Q1) ∧ ∀ (z1 : Int32) (I1 : xIt) (J1 : xJt) (P1 : xPt), Q1 z1 I1 J1 P1 → ((¬ z1 = (-1) → G_TR_remove l V Q 14 [(0, xq (some 21)), (1, xq v1), (2, xi z1), (3, xi z1)] [] I1 J1 P1) ∧ (z1 = (-1) → Q I1 J1 P1)))) : G_TR_remove l V Q 0 [(0, xq (some 21)), (1, xq v1)] [] I J P := by
  refine xG_aload_n d_TR_remove_0 rfl rfl rfl ?_
  refine xG_aload_n d_TR_remove_1 rfl rfl rfl ?_
  obtain ⟨Q1, hM, h⟩ := h
  refine xG_callv (as := [xq v1]) (rest := []) d_TR_remove_2 yv_TR_placeOf w3_185 rfl rfl rfl s0_21 (by decide) rfl hM ⟨by decide, by decide⟩ (Nat.le_of_ble_eq_true rfl) ⟨Nat.zero_le _, Nat.zero_le _⟩ (fun r S1 I1 J1 P1 hp => ?_)
  obtain ⟨rfl, hL1, z1, rfl, hq⟩ := hp
  have h := h z1 I1 J1 P1 hq
  refine xG_istore_n (lv' := [(2, xi z1), (0, xq (some 21)), (1, xq v1)]) d_TR_remove_5 rfl (Nat.le_of_ble_eq_true rfl) rfl ?_
  refine xG_iload_n d_TR_remove_6 rfl rfl ?_
  refine xG_iconst (v := (-1)) d_TR_remove_7 rfl ?_
  refine xG_icmp_ne (tgt := 12) d_TR_remove_8 (by decide) (fun c => ?_) (fun c => ?_)
  · have h := h.1 c
    refine xG_iload_n d_TR_remove_12 rfl rfl ?_
    refine xG_istore_n (lv' := [(3, xi z1), (2, xi z1), (0, xq (some 21)), (1, xq v1)]) d_TR_remove_13 rfl (Nat.le_of_ble_eq_true rfl) rfl ?_
    refine xG_pick [2, 3, 1, 0] rfl ?_
    exact h
  · have h := h.2 c
    exact xG_return d_TR_remove_11 rfl ⟨rfl, hL1, rfl, h⟩
set_option maxRecDepth 20000 in
theorem b_TR_remove_14 {l : Launch} {V : xV} {Q : xIt → xJt → xPt → Prop} {I : xIt} {J : xJt} {P : xPt} (hL : xL P) {v1 : Option Nat} {v2 : Int32} {v3 : Int32} (h : ((((I 21 1) - 1) ≤ v3 → (xIs 67 v1 ∧ vp_in ((I 21 1) - 1) 12 ∧ xL (xu P 22 (((I 21 1) - 1).toNatClampNeg) v1) ∧ (∃ a2 : Nat, v1 = some a2 ∧ xS0[a2]? = some (5, 0) ∧ (∃ Q3 : xIt → xJt → xPt → Prop, xMet l V y_EN_clear 2 0 0 [xq (some a2)] xS0 (xu I 21 1 ((I 21 1) - 1)) J (xu P 22 (((I 21 1) - 1).toNatClampNeg) v1) (xPv Q3) ∧ ∀ (I3 : xIt) (J3 : xJt) (P3 : xPt), Q3 I3 J3 P3 → Q I3 J3 P3)))) ∧ (¬ ((I 21 1) - 1) ≤ v3 → (vp_in (v3 + 1) 12 ∧ (xIs 67 (P 22 ((v3 + 1).toNatClampNeg)) ∧ vp_in v3 12 ∧ xL (xu P 22 v3.toNatClampNeg (P 22 ((v3 + 1).toNatClampNeg))) ∧ G_TR_remove l V Q 14 [(0, xq (some 21)), (1, xq v1), (2, xi v2), (3, xi (v3 + 1))] [] I J (xu P 22 v3.toNatClampNeg (P 22 ((v3 + 1).toNatClampNeg)))))))) : G_TR_remove l V Q 14 [(0, xq (some 21)), (1, xq v1), (2, xi v2), (3, xi v3)] [] I J P := by
  refine xG_iload_n d_TR_remove_14 rfl rfl ?_
  refine xG_aload_n d_TR_remove_15 rfl rfl rfl ?_
  refine xG_geti d_TR_remove_16 xf_TR_17 rfl s0_21 ?_
  refine xG_iconst (v := 1) d_TR_remove_19 rfl ?_
  refine xG_isub d_TR_remove_20 ?_
  refine xG_icmp_ge (tgt := 44) d_TR_remove_21 (by decide) (fun c => ?_) (fun c => ?_)
  · have h := h.1 c
    refine xG_aload_n d_TR_remove_44 rfl rfl rfl ?_
    refine xG_dup d_TR_remove_45 rfl ?_
    refine xG_geti d_TR_remove_46 xf_TR_17 rfl s0_21 ?_
    refine xG_iconst (v := 1) d_TR_remove_49 rfl ?_
    refine xG_isub d_TR_remove_50 ?_
    refine xG_puti d_TR_remove_51 xf_TR_17 (Or.inl rfl) rfl s0_21 rfl rfl ?_
    refine xG_aload_n d_TR_remove_54 rfl rfl rfl ?_
    refine xG_getq d_TR_remove_55 xf_TR_11 rfl s0_21 ?_
    refine xG_aload_n d_TR_remove_58 rfl rfl rfl ?_
    refine xG_geti d_TR_remove_59 xf_TR_17 rfl s0_21 ?_
    refine xG_topi (x' := (I 21 1) - 1) (by first | rfl | exact xu_at | simp [xu]) ?_
    refine xG_aload_n d_TR_remove_62 rfl rfl rfl ?_
    refine xG_aast (t := 1) d_TR_remove_63 (lp_21_0 hL) s0_22 rfl h.1 h.2.1 ?_
    have hL1 := h.2.2.1
    have h := h.2.2.2
    refine xG_aload_n d_TR_remove_64 rfl rfl rfl ?_
    obtain ⟨a2, e2, s2, h⟩ := h
    obtain ⟨Q3, hM, h⟩ := h
    refine xG_callv (as := []) (rest := []) d_TR_remove_65 yv_EN_clear w3_189 rfl e2 rfl s2 (by decide) rfl hM ⟨by decide, by decide⟩ (Nat.le_of_ble_eq_true rfl) ⟨Nat.zero_le _, Nat.zero_le _⟩ (fun r S3 I3 J3 P3 hp => ?_)
    obtain ⟨rfl, hL3, rfl, hq⟩ := hp
    have h := h I3 J3 P3 hq
    exact xG_return d_TR_remove_68 rfl ⟨rfl, hL3, rfl, h⟩
  · have h := h.2 c
    refine xG_aload_n d_TR_remove_24 rfl rfl rfl ?_
    refine xG_getq d_TR_remove_25 xf_TR_11 rfl s0_21 ?_
    refine xG_iload_n d_TR_remove_28 rfl rfl ?_
    refine xG_aload_n d_TR_remove_29 rfl rfl rfl ?_
    refine xG_getq d_TR_remove_30 xf_TR_11 rfl s0_21 ?_
    refine xG_iload_n d_TR_remove_33 rfl rfl ?_
    refine xG_iconst (v := 1) d_TR_remove_34 rfl ?_
    refine xG_iadd d_TR_remove_35 ?_
    refine xG_aald (t := 1) d_TR_remove_36 (lp_21_0 hL) s0_22 rfl h.1 ?_
    have h := h.2
    refine xG_topq (x' := P 22 ((v3 + 1).toNatClampNeg)) (by first | rfl | exact xu_at | simp [xu]) ?_
    refine xG_aast (t := 1) d_TR_remove_37 (lp_21_0 hL) s0_22 rfl h.1 h.2.1 ?_
    have hL4 := h.2.2.1
    have h := h.2.2.2
    refine xG_iinc (v := v3 + 1) (lv' := [(3, xi (v3 + 1)), (0, xq (some 21)), (1, xq v1), (2, xi v2)]) d_TR_remove_38 rfl rfl (Nat.le_of_ble_eq_true rfl) rfl ?_
    refine xG_goto (tgt := 14) d_TR_remove_41 (by decide) ?_
    refine xG_pick [1, 2, 3, 0] rfl ?_
    exact h
theorem e_TR_remove {l : Launch} {V : xV} {Q : xIt → xJt → xPt → Prop} {I : xIt} {J : xJt} {P : xPt} {v1 : Option Nat} (h : G_TR_remove l V Q 0 [(0, xq (some 21)), (1, xq v1)] [] I J P) : xMet l V y_TR_remove 3 0 0 [xq (some 21), xq v1] xS0 I J P (xPv Q) := xMet_of (by decide) (Nat.le_of_ble_eq_true rfl) h

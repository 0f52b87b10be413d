abbrev G_VR_clear (l : Launch) (V : xV) (Q : xIt → xJt → xPt → Prop) (pc : Nat) (lv : List (Nat × xX)) (st : List xX) (I : xIt) (J : xJt) (P : xPt) : Prop := xG l V y_VR_clear (xR 1 0 0) (xFn V y_VR_clear (xR 1 0 0) (xPv Q)) pc lv st xS0 I J P (0, 0)
set_option maxRecDepth 20000 in
theorem b_VR_clear_0 {l : Launch} {V : xV} {Q : xIt → xJt → xPt → Prop} {I : xIt} {J : xJt} {P : xPt} (hL : xL P) {v0 : Nat} (hs0 : xS0[v0]? = some (6, 0)) (h : Q (xu I v0 2 0) J P) : G_VR_clear l V Q 0 [(0, xq (some v0))] [] I J P := by
  refine xG_aload_n d_VR_clear_0 rfl rfl rfl ?_
  refine xG_iconst (v := 0) d_VR_clear_1 rfl ?_
  refine xG_puti d_VR_clear_2 xf_VR_7 (Or.inl rfl) rfl hs0 rfl rfl ?_
  exact xG_return d_VR_clear_5 rfl ⟨rfl, hL, rfl, h⟩
theorem e_VR_clear {l : Launch} {V : xV} {Q : xIt → xJt → xPt → Prop} {I : xIt} {J : xJt} {P : xPt} {v0 : Nat} (h : G_VR_clear l V Q 0 [(0, xq (some v0))] [] I J P) : xMet l V y_VR_clear 1 0 0 [xq (some v0)] xS0 I J P (xPv Q) := xMet_of (by decide) (Nat.le_of_ble_eq_true rfl) h

abbrev G_VR_has (l : Launch) (V : xV) (Q : Int32 → xIt → xJt → xPt → Prop) (pc : Nat) (lv : List (Nat × xX)) (st : List xX) (I : xIt) (J : xJt) (P : xPt) : Prop := xG l V y_VR_has (xR 1 0 0) (xFn V y_VR_has (xR 1 0 0) (xPi Q)) pc lv st xS0 I J P (0, 0)
set_option maxRecDepth 20000 in
theorem b_VR_has_0 {l : Launch} {V : xV} {Q : Int32 → xIt → xJt → xPt → Prop} {I : xIt} {J : xJt} {P : xPt} (hL : xL P) {v0 : Nat} (hs0 : xS0[v0]? = some (6, 0)) {v1 : Int64} (h : G_VR_has l V Q 2 [(0, xq (some v0)), (1, xj v1), (3, xi 0)] [] I J P) : G_VR_has l V Q 0 [(0, xq (some v0)), (1, xj v1)] [] I J P := by
  refine xG_iconst (v := 0) d_VR_has_0 rfl ?_
  refine xG_istore_n (lv' := [(3, xi 0), (0, xq (some v0)), (1, xj v1)]) d_VR_has_1 rfl (Nat.le_of_ble_eq_true rfl) rfl ?_
  refine xG_pick [1, 2, 0] rfl ?_
  exact h
set_option maxRecDepth 20000 in
theorem b_VR_has_2 {l : Launch} {V : xV} {Q : Int32 → xIt → xJt → xPt → Prop} {I : xIt} {J : xJt} {P : xPt} (hL : xL P) {v0 : Nat} (hs0 : xS0[v0]? = some (6, 0)) {v1 : Int64} {v3 : Int32} (h : (((I v0 2) ≤ v3 → Q 0 I J P) ∧ (¬ (I v0 2) ≤ v3 → (vp_in v3 (xLn (v0 + 2)) ∧ ((¬ (lg_cmp (J (v0 + 2) v3.toNatClampNeg) v1) = 0 → G_VR_has l V Q 2 [(0, xq (some v0)), (1, xj v1), (3, xi (v3 + 1))] [] I J P) ∧ ((lg_cmp (J (v0 + 2) v3.toNatClampNeg) v1) = 0 → Q 1 I J P)))))) : G_VR_has l V Q 2 [(0, xq (some v0)), (1, xj v1), (3, xi v3)] [] I J P := by
  refine xG_iload_n d_VR_has_2 rfl rfl ?_
  refine xG_aload_n d_VR_has_3 rfl rfl rfl ?_
  refine xG_geti d_VR_has_4 xf_VR_7 rfl hs0 ?_
  refine xG_icmp_ge (tgt := 29) d_VR_has_7 (by decide) (fun c => ?_) (fun c => ?_)
  · have h := h.1 c
    refine xG_iconst (v := 0) d_VR_has_29 rfl ?_
    exact xG_ireturn d_VR_has_30 rfl rfl ⟨rfl, hL, _, rfl, h⟩
  · have h := h.2 c
    refine xG_aload_n d_VR_has_10 rfl rfl rfl ?_
    refine xG_getq d_VR_has_11 xf_VR_17 rfl hs0 ?_
    refine xG_iload_n d_VR_has_14 rfl rfl ?_
    refine xG_lald d_VR_has_15 (lo_6_1 hL hs0) (so_6_1 hs0) h.1 ?_
    have h := h.2
    refine xG_lload_n d_VR_has_16 rfl rfl ?_
    refine xG_lcmp d_VR_has_17 ?_
    refine xG_if_ne (tgt := 23) d_VR_has_18 (by decide) (fun c => ?_) (fun c => ?_)
    · have h := h.1 c
      refine xG_iinc (v := v3 + 1) (lv' := [(3, xi (v3 + 1)), (0, xq (some v0)), (1, xj v1)]) d_VR_has_23 rfl rfl (Nat.le_of_ble_eq_true rfl) rfl ?_
      refine xG_goto (tgt := 2) d_VR_has_26 (by decide) ?_
      refine xG_pick [1, 2, 0] rfl ?_
      exact h
    · have h := h.2 c
      refine xG_iconst (v := 1) d_VR_has_21 rfl ?_
      exact xG_ireturn d_VR_has_22 rfl rfl ⟨rfl, hL, _, rfl, h⟩
theorem e_VR_has {l : Launch} {V : xV} {Q : Int32 → xIt → xJt → xPt → Prop} {I : xIt} {J : xJt} {P : xPt} {v0 : Nat} {v1 : Int64} (h : G_VR_has l V Q 0 [(0, xq (some v0)), (1, xj v1)] [] I J P) : xMet l V y_VR_has 1 0 0 [xq (some v0), xj v1] xS0 I J P (xPi Q) := xMet_of (by decide) (Nat.le_of_ble_eq_true rfl) h

abbrev G_VR_add (l : Launch) (V : xV) (Q : xIt → xJt → xPt → Prop) (pc : Nat) (lv : List (Nat × xX)) (st : List xX) (I : xIt) (J : xJt) (P : xPt) : Prop := xG l V y_VR_add (xR 1 0 0) (xFn V y_VR_add (xR 1 0 0) (xPv Q)) pc lv st xS0 I J P (0, 0)
set_option maxRecDepth 20000 in
theorem b_VR_add_0 {l : Launch} {V : xV} {Q : xIt → xJt → xPt → Prop} {I : xIt} {J : xJt} {P : xPt} (hL : xL P) {v0 : Nat} (hs0 : xS0[v0]? = some (6, 0)) {v1 : Int64} {v3 : Int64} (h : (((Int32.ofNat (xLn (v0 + 1))) ≤ (I v0 2) → Q I J P) ∧ (¬ (Int32.ofNat (xLn (v0 + 1))) ≤ (I v0 2) → (vp_in (I v0 2) (xLn (v0 + 1)) ∧ (vp_in (I v0 2) (xLn (v0 + 2)) ∧ Q (xu I v0 2 ((I v0 2) + 1)) (xu (xu J (v0 + 1) ((I v0 2).toNatClampNeg) v1) (v0 + 2) ((I v0 2).toNatClampNeg) v3) P))))) : G_VR_add l V Q 0 [(0, xq (some v0)), (1, xj v1), (3, xj v3)] [] I J P := by
  refine xG_aload_n d_VR_add_0 rfl rfl rfl ?_
  refine xG_geti d_VR_add_1 xf_VR_7 rfl hs0 ?_
  refine xG_aload_n d_VR_add_4 rfl rfl rfl ?_
  refine xG_getq d_VR_add_5 xf_VR_13 rfl hs0 ?_
  refine xG_alen (v := Int32.ofNat (xLn (v0 + 1))) (t := 1) d_VR_add_8 (lo_6_0 hL hs0) (so_6_0 hs0) rfl rfl ?_
  refine xG_icmp_ge (tgt := 42) d_VR_add_9 (by decide) (fun c => ?_) (fun c => ?_)
  · have h := h.1 c
    exact xG_return d_VR_add_42 rfl ⟨rfl, hL, rfl, h⟩
  · have h := h.2 c
    refine xG_aload_n d_VR_add_12 rfl rfl rfl ?_
    refine xG_getq d_VR_add_13 xf_VR_13 rfl hs0 ?_
    refine xG_aload_n d_VR_add_16 rfl rfl rfl ?_
    refine xG_geti d_VR_add_17 xf_VR_7 rfl hs0 ?_
    refine xG_lload_n d_VR_add_20 rfl rfl ?_
    refine xG_last d_VR_add_21 (lo_6_0 hL hs0) (so_6_0 hs0) h.1 ?_
    have h := h.2
    refine xG_aload_n d_VR_add_22 rfl rfl rfl ?_
    refine xG_getq d_VR_add_23 xf_VR_17 rfl hs0 ?_
    refine xG_aload_n d_VR_add_26 rfl rfl rfl ?_
    refine xG_geti d_VR_add_27 xf_VR_7 rfl hs0 ?_
    refine xG_lload_n d_VR_add_30 rfl rfl ?_
    refine xG_last d_VR_add_31 (lo_6_1 hL hs0) (so_6_1 hs0) h.1 ?_
    have h := h.2
    refine xG_aload_n d_VR_add_32 rfl rfl rfl ?_
    refine xG_dup d_VR_add_33 rfl ?_
    refine xG_geti d_VR_add_34 xf_VR_7 rfl hs0 ?_
    refine xG_iconst (v := 1) d_VR_add_37 rfl ?_
    refine xG_iadd d_VR_add_38 ?_
    refine xG_puti d_VR_add_39 xf_VR_7 (Or.inl rfl) rfl hs0 rfl rfl ?_
    exact xG_return d_VR_add_42 rfl ⟨rfl, hL, rfl, h⟩
theorem e_VR_add {l : Launch} {V : xV} {Q : xIt → xJt → xPt → Prop} {I : xIt} {J : xJt} {P : xPt} {v0 : Nat} {v1 : Int64} {v3 : Int64} (h : G_VR_add l V Q 0 [(0, xq (some v0)), (1, xj v1), (3, xj v3)] [] I J P) : xMet l V y_VR_add 1 0 0 [xq (some v0), xj v1, xj v3] xS0 I J P (xPv Q) := xMet_of (by decide) (Nat.le_of_ble_eq_true rfl) h

abbrev G_VR_addAll (l : Launch) (V : xV) (Q : xIt → xJt → xPt → Prop) (pc : Nat) (lv : List (Nat × xX)) (st : List xX) (I : xIt) (J : xJt) (P : xPt) : Prop := xG l V y_VR_addAll (xR 2 0 0) (xFn V y_VR_addAll (xR 2 0 0) (xPv Q)) pc lv st xS0 I J P (0, 0)
set_option maxRecDepth 20000 in
theorem b_VR_addAll_0 {l : Launch} {V : xV} {Q : xIt → xJt → xPt → Prop} {I : xIt} {J : xJt} {P : xPt} (hL : xL P) {v0 : Nat} (hs0 : xS0[v0]? = some (6, 0)) {v1 : Option Nat} (h : G_VR_addAll l V Q 2 [(0, xq (some v0)), (1, xq v1), (2, xi 0)] [] I J P) : G_VR_addAll l V Q 0 [(0, xq (some v0)), (1, xq v1)] [] I J P := by
  refine xG_iconst (v := 0) d_VR_addAll_0 rfl ?_
  refine xG_istore_n (lv' := [(2, xi 0), (0, xq (some v0)), (1, xq v1)]) d_VR_addAll_1 rfl (Nat.le_of_ble_eq_true rfl) rfl ?_
  refine xG_pick [1, 2, 0] rfl ?_
  exact h
set_option maxRecDepth 20000 in
theorem b_VR_addAll_2 {l : Launch} {V : xV} {Q : xIt → xJt → xPt → Prop} {I : xIt} {J : xJt} {P : xPt} (hL : xL P) {v0 : Nat} (hs0 : xS0[v0]? = some (6, 0)) {v1 : Option Nat} {v2 : Int32} (h : (∃ a1 : Nat, v1 = some a1 ∧ xS0[a1]? = some (6, 0) ∧ (((I a1 2) ≤ v2 → Q I J P) ∧ (¬ (I a1 2) ≤ v2 → (vp_in v2 (xLn (a1 + 1)) ∧ (vp_in v2 (xLn (a1 + 2)) ∧ (∃ Q2 : xIt → xJt → xPt → Prop, xMet l V y_VR_add 1 0 0 [xq (some v0), xj (J (a1 + 1) v2.toNatClampNeg), xj (J (a1 + 2) v2.toNatClampNeg)] xS0 I J P (xPv Q2) ∧ ∀ (I2 : xIt) (J2 : xJt) (P2 : xPt), Q2 I2 J2 P2 → G_VR_addAll l V Q 2 [(0, xq (some v0)), (1, xq v1), (2, xi (v2 + 1))] [] I2 J2 P2))))))) : G_VR_addAll l V Q 2 [(0, xq (some v0)), (1, xq v1), (2, xi v2)] [] I J P := by
  refine xG_iload_n d_VR_addAll_2 rfl rfl ?_
  refine xG_aload_n d_VR_addAll_3 rfl rfl rfl ?_
  obtain ⟨a1, e1, s1, h⟩ := h
  refine xG_geti d_VR_addAll_4 xf_VR_7 e1 s1 ?_
  refine xG_icmp_ge (tgt := 32) d_VR_addAll_7 (by decide) (fun c => ?_) (fun c => ?_)
  · have h := h.1 c
    exact xG_return d_VR_addAll_32 rfl ⟨rfl, hL, rfl, h⟩
  · have h := h.2 c
    refine xG_aload_n d_VR_addAll_10 rfl rfl rfl ?_
    refine xG_aload_n d_VR_addAll_11 rfl rfl rfl ?_
    refine xG_getq d_VR_addAll_12 xf_VR_13 e1 s1 ?_
    refine xG_iload_n d_VR_addAll_15 rfl rfl ?_
    refine xG_lald d_VR_addAll_16 (lo_6_0 hL s1) (so_6_0 s1) h.1 ?_
    have h := h.2
    refine xG_aload_n d_VR_addAll_17 rfl rfl rfl ?_
    refine xG_getq d_VR_addAll_18 xf_VR_17 e1 s1 ?_
    refine xG_iload_n d_VR_addAll_21 rfl rfl ?_
    refine xG_lald d_VR_addAll_22 (lo_6_1 hL s1) (so_6_1 s1) h.1 ?_
    have h := h.2
    obtain ⟨Q2, hM, h⟩ := h
    refine xG_callv (as := [xj (J (a1 + 1) v2.toNatClampNeg), xj (J (a1 + 2) v2.toNatClampNeg)]) (rest := []) d_VR_addAll_23 yv_VR_add w3_167 rfl rfl rfl hs0 (by decide) rfl hM ⟨by decide, by decide⟩ (Nat.le_of_ble_eq_true rfl) ⟨Nat.zero_le _, Nat.zero_le _⟩ (fun r S2 I2 J2 P2 hp => ?_)
    obtain ⟨rfl, hL2, rfl, hq⟩ := hp
    have h := h I2 J2 P2 hq
    refine xG_iinc (v := v2 + 1) (lv' := [(2, xi (v2 + 1)), (0, xq (some v0)), (1, xq v1)]) d_VR_addAll_26 rfl rfl (Nat.le_of_ble_eq_true rfl) rfl ?_
    refine xG_goto (tgt := 2) d_VR_addAll_29 (by decide) ?_
    refine xG_pick [1, 2, 0] rfl ?_
    exact h
theorem e_VR_addAll {l : Launch} {V : xV} {Q : xIt → xJt → xPt → Prop} {I : xIt} {J : xJt} {P : xPt} {v0 : Nat} {v1 : Option Nat} (h : G_VR_addAll l V Q 0 [(0, xq (some v0)), (1, xq v1)] [] I J P) : xMet l V y_VR_addAll 2 0 0 [xq (some v0), xq v1] xS0 I J P (xPv Q) := xMet_of (by decide) (Nat.le_of_ble_eq_true rfl) h

abbrev G_VR_copy (l : Launch) (V : xV) (Q : xIt → xJt → xPt → Prop) (pc : Nat) (lv : List (Nat × xX)) (st : List xX) (I : xIt) (J : xJt) (P : xPt) : Prop := xG l V y_VR_copy (xR 2 0 0) (xFn V y_VR_copy (xR 2 0 0) (xPv Q)) pc lv st xS0 I J P (0, 0)
set_option maxRecDepth 20000 in
theorem b_VR_copy_0 {l : Launch} {V : xV} {Q : xIt → xJt → xPt → Prop} {I : xIt} {J : xJt} {P : xPt} (hL : xL P) {v0 : Nat} (hs0 : xS0[v0]? = some (6, 0)) {v1 : Option Nat} (h : (∃ a1 : Nat, v1 = some a1 ∧ xS0[a1]? = some (6, 0) ∧ G_VR_copy l V Q 18 [(0, xq (some v0)), (1, xq v1), (2, xi 0)] [] (xu I v0 2 (if (Int32.ofNat (xLn (v0 + 1))) < (I a1 2) then (Int32.ofNat (xLn (v0 + 1))) else (I a1 2))) J P)) : G_VR_copy l V Q 0 [(0, xq (some v0)), (1, xq v1)] [] I J P := by
  refine xG_aload_n d_VR_copy_0 rfl rfl rfl ?_
  refine xG_aload_n d_VR_copy_1 rfl rfl rfl ?_
  obtain ⟨a1, e1, s1, h⟩ := h
  refine xG_geti d_VR_copy_2 xf_VR_7 e1 s1 ?_
  refine xG_aload_n d_VR_copy_5 rfl rfl rfl ?_
  refine xG_getq d_VR_copy_6 xf_VR_13 rfl hs0 ?_
  refine xG_alen (v := Int32.ofNat (xLn (v0 + 1))) (t := 1) d_VR_copy_9 (lo_6_0 hL hs0) (so_6_0 hs0) rfl rfl ?_
  refine xG_min d_VR_copy_10 w3_124 w3_20 w1_13 w3_21 ⟨by decide, by decide⟩ (Nat.le_of_ble_eq_true rfl) ?_
  refine xG_puti d_VR_copy_13 xf_VR_7 (Or.inl rfl) rfl hs0 rfl rfl ?_
  refine xG_iconst (v := 0) d_VR_copy_16 rfl ?_
  refine xG_istore_n (lv' := [(2, xi 0), (0, xq (some v0)), (1, xq v1)]) d_VR_copy_17 rfl (Nat.le_of_ble_eq_true rfl) rfl ?_
  refine xG_pick [1, 2, 0] rfl ?_
  exact h
set_option maxRecDepth 20000 in
theorem b_VR_copy_18 {l : Launch} {V : xV} {Q : xIt → xJt → xPt → Prop} {I : xIt} {J : xJt} {P : xPt} (hL : xL P) {v0 : Nat} (hs0 : xS0[v0]? = some (6, 0)) {v1 : Option Nat} {v2 : Int32} (h : (((I v0 2) ≤ v2 → Q I J P) ∧ (¬ (I v0 2) ≤ v2 → (∃ a1 : Nat, v1 = some a1 ∧ xS0[a1]? = some (6, 0) ∧ (vp_in v2 (xLn (a1 + 1)) ∧ (vp_in v2 (xLn (v0 + 1)) ∧ (vp_in v2 (xLn (a1 + 2)) ∧ (vp_in v2 (xLn (v0 + 2)) ∧ G_VR_copy l V Q 18 [(0, xq (some v0)), (1, xq v1), (2, xi (v2 + 1))] [] I (xu (xu J (v0 + 1) v2.toNatClampNeg (J (a1 + 1) v2.toNatClampNeg)) (v0 + 2) v2.toNatClampNeg ((xu J (v0 + 1) v2.toNatClampNeg (J (a1 + 1) v2.toNatClampNeg)) (a1 + 2) v2.toNatClampNeg)) P)))))))) : G_VR_copy l V Q 18 [(0, xq (some v0)), (1, xq v1), (2, xi v2)] [] I J P := by
  refine xG_iload_n d_VR_copy_18 rfl rfl ?_
  refine xG_aload_n d_VR_copy_19 rfl rfl rfl ?_
  refine xG_geti d_VR_copy_20 xf_VR_7 rfl hs0 ?_
  refine xG_icmp_ge (tgt := 56) d_VR_copy_23 (by decide) (fun c => ?_) (fun c => ?_)
  · have h := h.1 c
    exact xG_return d_VR_copy_56 rfl ⟨rfl, hL, rfl, h⟩
  · have h := h.2 c
    refine xG_aload_n d_VR_copy_26 rfl rfl rfl ?_
    refine xG_getq d_VR_copy_27 xf_VR_13 rfl hs0 ?_
    refine xG_iload_n d_VR_copy_30 rfl rfl ?_
    refine xG_aload_n d_VR_copy_31 rfl rfl rfl ?_
    obtain ⟨a1, e1, s1, h⟩ := h
    refine xG_getq d_VR_copy_32 xf_VR_13 e1 s1 ?_
    refine xG_iload_n d_VR_copy_35 rfl rfl ?_
    refine xG_lald d_VR_copy_36 (lo_6_0 hL s1) (so_6_0 s1) h.1 ?_
    have h := h.2
    refine xG_last d_VR_copy_37 (lo_6_0 hL hs0) (so_6_0 hs0) h.1 ?_
    have h := h.2
    refine xG_aload_n d_VR_copy_38 rfl rfl rfl ?_
    refine xG_getq d_VR_copy_39 xf_VR_17 rfl hs0 ?_
    refine xG_iload_n d_VR_copy_42 rfl rfl ?_
    refine xG_aload_n d_VR_copy_43 rfl rfl rfl ?_
    refine xG_getq d_VR_copy_44 xf_VR_17 e1 s1 ?_
    refine xG_iload_n d_VR_copy_47 rfl rfl ?_
    refine xG_lald d_VR_copy_48 (lo_6_1 hL s1) (so_6_1 s1) h.1 ?_
    have h := h.2
    refine xG_last d_VR_copy_49 (lo_6_1 hL hs0) (so_6_1 hs0) h.1 ?_
    have h := h.2
    refine xG_iinc (v := v2 + 1) (lv' := [(2, xi (v2 + 1)), (0, xq (some v0)), (1, xq v1)]) d_VR_copy_50 rfl rfl (Nat.le_of_ble_eq_true rfl) rfl ?_
    refine xG_goto (tgt := 18) d_VR_copy_53 (by decide) ?_
    refine xG_pick [1, 2, 0] rfl ?_
    exact h
theorem e_VR_copy {l : Launch} {V : xV} {Q : xIt → xJt → xPt → Prop} {I : xIt} {J : xJt} {P : xPt} {v0 : Nat} {v1 : Option Nat} (h : G_VR_copy l V Q 0 [(0, xq (some v0)), (1, xq v1)] [] I J P) : xMet l V y_VR_copy 2 0 0 [xq (some v0), xq v1] xS0 I J P (xPv Q) := xMet_of (by decide) (Nat.le_of_ble_eq_true rfl) h

abbrev G_VR_remove (l : Launch) (V : xV) (Q : xIt → xJt → xPt → Prop) (pc : Nat) (lv : List (Nat × xX)) (st : List xX) (I : xIt) (J : xJt) (P : xPt) : Prop := xG l V y_VR_remove (xR 1 0 0) (xFn V y_VR_remove (xR 1 0 0) (xPv Q)) pc lv st xS0 I J P (0, 0)
set_option maxRecDepth 20000 in
theorem b_VR_remove_0 {l : Launch} {V : xV} {Q : xIt → xJt → xPt → Prop} {I : xIt} {J : xJt} {P : xPt} (hL : xL P) {v0 : Nat} (hs0 : xS0[v0]? = some (6, 0)) {v1 : Int64} (h : G_VR_remove l V Q 5 [(0, xq (some v0)), (1, xj v1), (3, xi 0), (4, xi 0)] [] I J P) : G_VR_remove l V Q 0 [(0, xq (some v0)), (1, xj v1)] [] I J P := by
  refine xG_iconst (v := 0) d_VR_remove_0 rfl ?_
  refine xG_istore_n (lv' := [(3, xi 0), (0, xq (some v0)), (1, xj v1)]) d_VR_remove_1 rfl (Nat.le_of_ble_eq_true rfl) rfl ?_
  refine xG_iconst (v := 0) d_VR_remove_2 rfl ?_
  refine xG_istore (lv' := [(4, xi 0), (3, xi 0), (0, xq (some v0)), (1, xj v1)]) d_VR_remove_3 (Nat.le_of_ble_eq_true rfl) rfl ?_
  refine xG_pick [2, 3, 1, 0] rfl ?_
  exact h
set_option maxRecDepth 20000 in
theorem b_VR_remove_5 {l : Launch} {V : xV} {Q : xIt → xJt → xPt → Prop} {I : xIt} {J : xJt} {P : xPt} (hL : xL P) {v0 : Nat} (hs0 : xS0[v0]? = some (6, 0)) {v1 : Int64} {v3 : Int32} {v4 : Int32} (h : (((I v0 2) ≤ v4 → Q (xu I v0 2 v3) J P) ∧ (¬ (I v0 2) ≤ v4 → (vp_in v4 (xLn (v0 + 2)) ∧ (((lg_cmp (J (v0 + 2) v4.toNatClampNeg) v1) = 0 → G_VR_remove l V Q 5 [(0, xq (some v0)), (1, xj v1), (3, xi v3), (4, xi (v4 + 1))] [] I J P) ∧ (¬ (lg_cmp (J (v0 + 2) v4.toNatClampNeg) v1) = 0 → (vp_in v4 (xLn (v0 + 1)) ∧ (vp_in v3 (xLn (v0 + 1)) ∧ (vp_in v4 (xLn (v0 + 2)) ∧ (vp_in v3 (xLn (v0 + 2)) ∧ G_VR_remove l V Q 5 [(0, xq (some v0)), (1, xj v1), (3, xi (v3 + 1)), (4, xi (v4 + 1))] [] I (xu (xu J (v0 + 1) v3.toNatClampNeg (J (v0 + 1) v4.toNatClampNeg)) (v0 + 2) v3.toNatClampNeg ((xu J (v0 + 1) v3.toNatClampNeg (J (v0 + 1) v4.toNatClampNeg)) (v0 + 2) v4.toNatClampNeg)) P)))))))))) : G_VR_remove l V Q 5 [(0, xq (some v0)), (1, xj v1), (3, xi v3), (4, xi v4)] [] I J P := by
  refine xG_iload d_VR_remove_5 rfl ?_
  refine xG_aload_n d_VR_remove_7 rfl rfl rfl ?_
  refine xG_geti d_VR_remove_8 xf_VR_7 rfl hs0 ?_
  refine xG_icmp_ge (tgt := 61) d_VR_remove_11 (by decide) (fun c => ?_) (fun c => ?_)
  · have h := h.1 c
    refine xG_aload_n d_VR_remove_61 rfl rfl rfl ?_
    refine xG_iload_n d_VR_remove_62 rfl rfl ?_
    refine xG_puti d_VR_remove_63 xf_VR_7 (Or.inl rfl) rfl hs0 rfl rfl ?_
    exact xG_return d_VR_remove_66 rfl ⟨rfl, hL, rfl, h⟩
  · have h := h.2 c
    refine xG_aload_n d_VR_remove_14 rfl rfl rfl ?_
    refine xG_getq d_VR_remove_15 xf_VR_17 rfl hs0 ?_
    refine xG_iload d_VR_remove_18 rfl ?_
    refine xG_lald d_VR_remove_20 (lo_6_1 hL hs0) (so_6_1 hs0) h.1 ?_
    have h := h.2
    refine xG_lload_n d_VR_remove_21 rfl rfl ?_
    refine xG_lcmp d_VR_remove_22 ?_
    refine xG_if_eq (tgt := 55) d_VR_remove_23 (by decide) (fun c => ?_) (fun c => ?_)
    · have h := h.1 c
      refine xG_iinc (v := v4 + 1) (lv' := [(4, xi (v4 + 1)), (0, xq (some v0)), (1, xj v1), (3, xi v3)]) d_VR_remove_55 rfl rfl (Nat.le_of_ble_eq_true rfl) rfl ?_
      refine xG_goto (tgt := 5) d_VR_remove_58 (by decide) ?_
      refine xG_pick [1, 2, 3, 0] rfl ?_
      exact h
    · have h := h.2 c
      refine xG_aload_n d_VR_remove_26 rfl rfl rfl ?_
      refine xG_getq d_VR_remove_27 xf_VR_13 rfl hs0 ?_
      refine xG_iload_n d_VR_remove_30 rfl rfl ?_
      refine xG_aload_n d_VR_remove_31 rfl rfl rfl ?_
      refine xG_getq d_VR_remove_32 xf_VR_13 rfl hs0 ?_
      refine xG_iload d_VR_remove_35 rfl ?_
      refine xG_lald d_VR_remove_37 (lo_6_0 hL hs0) (so_6_0 hs0) h.1 ?_
      have h := h.2
      refine xG_last d_VR_remove_38 (lo_6_0 hL hs0) (so_6_0 hs0) h.1 ?_
      have h := h.2
      refine xG_aload_n d_VR_remove_39 rfl rfl rfl ?_
      refine xG_getq d_VR_remove_40 xf_VR_17 rfl hs0 ?_
      refine xG_iload_n d_VR_remove_43 rfl rfl ?_
      refine xG_aload_n d_VR_remove_44 rfl rfl rfl ?_
      refine xG_getq d_VR_remove_45 xf_VR_17 rfl hs0 ?_
      refine xG_iload d_VR_remove_48 rfl ?_
      refine xG_lald d_VR_remove_50 (lo_6_1 hL hs0) (so_6_1 hs0) h.1 ?_
      have h := h.2
      refine xG_last d_VR_remove_51 (lo_6_1 hL hs0) (so_6_1 hs0) h.1 ?_
      have h := h.2
      refine xG_iinc (v := v3 + 1) (lv' := [(3, xi (v3 + 1)), (0, xq (some v0)), (1, xj v1), (4, xi v4)]) d_VR_remove_52 rfl rfl (Nat.le_of_ble_eq_true rfl) rfl ?_
      refine xG_iinc (v := v4 + 1) (lv' := [(4, xi (v4 + 1)), (3, xi (v3 + 1)), (0, xq (some v0)), (1, xj v1)]) d_VR_remove_55 rfl rfl (Nat.le_of_ble_eq_true rfl) rfl ?_
      refine xG_goto (tgt := 5) d_VR_remove_58 (by decide) ?_
      refine xG_pick [2, 3, 1, 0] rfl ?_
      exact h
theorem e_VR_remove {l : Launch} {V : xV} {Q : xIt → xJt → xPt → Prop} {I : xIt} {J : xJt} {P : xPt} {v0 : Nat} {v1 : Int64} (h : G_VR_remove l V Q 0 [(0, xq (some v0)), (1, xj v1)] [] I J P) : xMet l V y_VR_remove 1 0 0 [xq (some v0), xj v1] xS0 I J P (xPv Q) := xMet_of (by decide) (Nat.le_of_ble_eq_true rfl) h

abbrev G_VR_hasAll (l : Launch) (V : xV) (Q : Int32 → xIt → xJt → xPt → Prop) (pc : Nat) (lv : List (Nat × xX)) (st : List xX) (I : xIt) (J : xJt) (P : xPt) : Prop := xG l V y_VR_hasAll (xR 2 0 0) (xFn V y_VR_hasAll (xR 2 0 0) (xPi Q)) pc lv st xS0 I J P (0, 0)
set_option maxRecDepth 20000 in
theorem b_VR_hasAll_0 {l : Launch} {V : xV} {Q : Int32 → xIt → xJt → xPt → Prop} {I : xIt} {J : xJt} {P : xPt} (hL : xL P) {v0 : Nat} (hs0 : xS0[v0]? = some (6, 0)) {v1 : Option Nat} (h : G_VR_hasAll l V Q 2 [(0, xq (some v0)), (1, xq v1), (2, xi 0)] [] I J P) : G_VR_hasAll l V Q 0 [(0, xq (some v0)), (1, xq v1)] [] I J P := by
  refine xG_iconst (v := 0) d_VR_hasAll_0 rfl ?_
  refine xG_istore_n (lv' := [(2, xi 0), (0, xq (some v0)), (1, xq v1)]) d_VR_hasAll_1 rfl (Nat.le_of_ble_eq_true rfl) rfl ?_
  refine xG_pick [1, 2, 0] rfl ?_
  exact h
set_option maxRecDepth 20000 in
theorem b_VR_hasAll_2 {l : Launch} {V : xV} {Q : Int32 → xIt → xJt → xPt → Prop} {I : xIt} {J : xJt} {P : xPt} (hL : xL P) {v0 : Nat} (hs0 : xS0[v0]? = some (6, 0)) {v1 : Option Nat} {v2 : Int32} (h : (∃ a1 : Nat, v1 = some a1 ∧ xS0[a1]? = some (6, 0) ∧ (((I a1 2) ≤ v2 → Q 1 I J P) ∧ (¬ (I a1 2) ≤ v2 → (vp_in v2 (xLn (a1 + 2)) ∧ (∃ Q2 : Int32 → xIt → xJt → xPt → Prop, xMet l V y_VR_has 1 0 0 [xq (some v0), xj (J (a1 + 2) v2.toNatClampNeg)] xS0 I J P (xPi Q2) ∧ ∀ (z2 : Int32) (I2 : xIt) (J2 : xJt) (P2 : xPt), Q2 z2 I2 J2 P2 → ((¬ z2 = 0 → G_VR_hasAll l V Q 2 [(0, xq (some v0)), (1, xq v1), (2, xi (v2 + 1))] [] I2 J2 P2) ∧ (z2 = 0 → Q 0 I2 J2 P2)))))))) : G_VR_hasAll l V Q 2 [(0, xq (some v0)), (1, xq v1), (2, xi v2)] [] I J P := by
  refine xG_iload_n d_VR_hasAll_2 rfl rfl ?_
  refine xG_aload_n d_VR_hasAll_3 rfl rfl rfl ?_
  obtain ⟨a1, e1, s1, h⟩ := h
  refine xG_geti d_VR_hasAll_4 xf_VR_7 e1 s1 ?_
  refine xG_icmp_ge (tgt := 31) d_VR_hasAll_7 (by decide) (fun c => ?_) (fun c => ?_)
  · have h := h.1 c
    refine xG_iconst (v := 1) d_VR_hasAll_31 rfl ?_
    exact xG_ireturn d_VR_hasAll_32 rfl rfl ⟨rfl, hL, _, rfl, h⟩
  · have h := h.2 c
    refine xG_aload_n d_VR_hasAll_10 rfl rfl rfl ?_
    refine xG_aload_n d_VR_hasAll_11 rfl rfl rfl ?_
    refine xG_getq d_VR_hasAll_12 xf_VR_17 e1 s1 ?_
    refine xG_iload_n d_VR_hasAll_15 rfl rfl ?_
    refine xG_lald d_VR_hasAll_16 (lo_6_1 hL s1) (so_6_1 s1) h.1 ?_
    have h := h.2
    obtain ⟨Q2, hM, h⟩ := h
    refine xG_callv (as := [xj (J (a1 + 2) v2.toNatClampNeg)]) (rest := []) d_VR_hasAll_17 yv_VR_has w3_153 rfl rfl rfl hs0 (by decide) rfl hM ⟨by decide, by decide⟩ (Nat.le_of_ble_eq_true rfl) ⟨Nat.zero_le _, Nat.zero_le _⟩ (fun r S2 I2 J2 P2 hp => ?_)
    obtain ⟨rfl, hL2, z2, rfl, hq⟩ := hp
    have h := h z2 I2 J2 P2 hq
    refine xG_if_ne (tgt := 25) d_VR_hasAll_20 (by decide) (fun c => ?_) (fun c => ?_)
    · have h := h.1 c
      refine xG_iinc (v := v2 + 1) (lv' := [(2, xi (v2 + 1)), (0, xq (some v0)), (1, xq v1)]) d_VR_hasAll_25 rfl rfl (Nat.le_of_ble_eq_true rfl) rfl ?_
      refine xG_goto (tgt := 2) d_VR_hasAll_28 (by decide) ?_
      refine xG_pick [1, 2, 0] rfl ?_
      exact h
    · have h := h.2 c
      refine xG_iconst (v := 0) d_VR_hasAll_23 rfl ?_
      exact xG_ireturn d_VR_hasAll_24 rfl rfl ⟨rfl, hL2, _, rfl, h⟩
theorem e_VR_hasAll {l : Launch} {V : xV} {Q : Int32 → xIt → xJt → xPt → Prop} {I : xIt} {J : xJt} {P : xPt} {v0 : Nat} {v1 : Option Nat} (h : G_VR_hasAll l V Q 0 [(0, xq (some v0)), (1, xq v1)] [] I J P) : xMet l V y_VR_hasAll 2 0 0 [xq (some v0), xq v1] xS0 I J P (xPi Q) := xMet_of (by decide) (Nat.le_of_ble_eq_true rfl) h

abbrev G_VR_hasAny (l : Launch) (V : xV) (Q : Int32 → xIt → xJt → xPt → Prop) (pc : Nat) (lv : List (Nat × xX)) (st : List xX) (I : xIt) (J : xJt) (P : xPt) : Prop := xG l V y_VR_hasAny (xR 2 0 0) (xFn V y_VR_hasAny (xR 2 0 0) (xPi Q)) pc lv st xS0 I J P (0, 0)
set_option maxRecDepth 20000 in
theorem b_VR_hasAny_0 {l : Launch} {V : xV} {Q : Int32 → xIt → xJt → xPt → Prop} {I : xIt} {J : xJt} {P : xPt} (hL : xL P) {v0 : Nat} (hs0 : xS0[v0]? = some (6, 0)) {v1 : Option Nat} (h : G_VR_hasAny l V Q 2 [(0, xq (some v0)), (1, xq v1), (2, xi 0)] [] I J P) : G_VR_hasAny l V Q 0 [(0, xq (some v0)), (1, xq v1)] [] I J P := by
  refine xG_iconst (v := 0) d_VR_hasAny_0 rfl ?_
  refine xG_istore_n (lv' := [(2, xi 0), (0, xq (some v0)), (1, xq v1)]) d_VR_hasAny_1 rfl (Nat.le_of_ble_eq_true rfl) rfl ?_
  refine xG_pick [1, 2, 0] rfl ?_
  exact h
set_option maxRecDepth 20000 in
theorem b_VR_hasAny_2 {l : Launch} {V : xV} {Q : Int32 → xIt → xJt → xPt → Prop} {I : xIt} {J : xJt} {P : xPt} (hL : xL P) {v0 : Nat} (hs0 : xS0[v0]? = some (6, 0)) {v1 : Option Nat} {v2 : Int32} (h : (∃ a1 : Nat, v1 = some a1 ∧ xS0[a1]? = some (6, 0) ∧ (((I a1 2) ≤ v2 → Q 0 I J P) ∧ (¬ (I a1 2) ≤ v2 → (vp_in v2 (xLn (a1 + 2)) ∧ (∃ Q2 : Int32 → xIt → xJt → xPt → Prop, xMet l V y_VR_has 1 0 0 [xq (some v0), xj (J (a1 + 2) v2.toNatClampNeg)] xS0 I J P (xPi Q2) ∧ ∀ (z2 : Int32) (I2 : xIt) (J2 : xJt) (P2 : xPt), Q2 z2 I2 J2 P2 → ((z2 = 0 → G_VR_hasAny l V Q 2 [(0, xq (some v0)), (1, xq v1), (2, xi (v2 + 1))] [] I2 J2 P2) ∧ (¬ z2 = 0 → Q 1 I2 J2 P2)))))))) : G_VR_hasAny l V Q 2 [(0, xq (some v0)), (1, xq v1), (2, xi v2)] [] I J P := by
  refine xG_iload_n d_VR_hasAny_2 rfl rfl ?_
  refine xG_aload_n d_VR_hasAny_3 rfl rfl rfl ?_
  obtain ⟨a1, e1, s1, h⟩ := h
  refine xG_geti d_VR_hasAny_4 xf_VR_7 e1 s1 ?_
  refine xG_icmp_ge (tgt := 31) d_VR_hasAny_7 (by decide) (fun c => ?_) (fun c => ?_)
  · have h := h.1 c
    refine xG_iconst (v := 0) d_VR_hasAny_31 rfl ?_
    exact xG_ireturn d_VR_hasAny_32 rfl rfl ⟨rfl, hL, _, rfl, h⟩
  · have h := h.2 c
    refine xG_aload_n d_VR_hasAny_10 rfl rfl rfl ?_
    refine xG_aload_n d_VR_hasAny_11 rfl rfl rfl ?_
    refine xG_getq d_VR_hasAny_12 xf_VR_17 e1 s1 ?_
    refine xG_iload_n d_VR_hasAny_15 rfl rfl ?_
    refine xG_lald d_VR_hasAny_16 (lo_6_1 hL s1) (so_6_1 s1) h.1 ?_
    have h := h.2
    obtain ⟨Q2, hM, h⟩ := h
    refine xG_callv (as := [xj (J (a1 + 2) v2.toNatClampNeg)]) (rest := []) d_VR_hasAny_17 yv_VR_has w3_153 rfl rfl rfl hs0 (by decide) rfl hM ⟨by decide, by decide⟩ (Nat.le_of_ble_eq_true rfl) ⟨Nat.zero_le _, Nat.zero_le _⟩ (fun r S2 I2 J2 P2 hp => ?_)
    obtain ⟨rfl, hL2, z2, rfl, hq⟩ := hp
    have h := h z2 I2 J2 P2 hq
    refine xG_if_eq (tgt := 25) d_VR_hasAny_20 (by decide) (fun c => ?_) (fun c => ?_)
    · have h := h.1 c
      refine xG_iinc (v := v2 + 1) (lv' := [(2, xi (v2 + 1)), (0, xq (some v0)), (1, xq v1)]) d_VR_hasAny_25 rfl rfl (Nat.le_of_ble_eq_true rfl) rfl ?_
      refine xG_goto (tgt := 2) d_VR_hasAny_28 (by decide) ?_
      refine xG_pick [1, 2, 0] rfl ?_
      exact h
    · have h := h.2 c
      refine xG_iconst (v := 1) d_VR_hasAny_23 rfl ?_
      exact xG_ireturn d_VR_hasAny_24 rfl rfl ⟨rfl, hL2, _, rfl, h⟩
theorem e_VR_hasAny {l : Launch} {V : xV} {Q : Int32 → xIt → xJt → xPt → Prop} {I : xIt} {J : xJt} {P : xPt} {v0 : Nat} {v1 : Option Nat} (h : G_VR_hasAny l V Q 0 [(0, xq (some v0)), (1, xq v1)] [] I J P) : xMet l V y_VR_hasAny 2 0 0 [xq (some v0), xq v1] xS0 I J P (xPi Q) := xMet_of (by decide) (Nat.le_of_ble_eq_true rfl) h

abbrev G_VR_removeAll (l : Launch) (V : xV) (Q : xIt → xJt → xPt → Prop) (pc : Nat) (lv : List (Nat × xX)) (st : List xX) (I : xIt) (J : xJt) (P : xPt) : Prop := xG l V y_VR_removeAll (xR 2 0 0) (xFn V y_VR_removeAll (xR 2 0 0) (xPv Q)) pc lv st xS0 I J P (0, 0)
set_option maxRecDepth 20000 in
theorem b_VR_removeAll_0 {l : Launch} {V : xV} {Q : xIt → xJt → xPt → Prop} {I : xIt} {J : xJt} {P : xPt} (hL : xL P) {v0 : Nat} (hs0 : xS0[v0]? = some (6, 0)) {v1 : Option Nat} (h : G_VR_removeAll l V Q 2 [(0, xq (some v0)), (1, xq v1), (2, xi 0)] [] I J P) : G_VR_removeAll l V Q 0 [(0, xq (some v0)), (1, xq v1)] [] I J P := by
  refine xG_iconst (v := 0) d_VR_removeAll_0 rfl ?_
  refine xG_istore_n (lv' := [(2, xi 0), (0, xq (some v0)), (1, xq v1)]) d_VR_removeAll_1 rfl (Nat.le_of_ble_eq_true rfl) rfl ?_
  refine xG_pick [1, 2, 0] rfl ?_
  exact h
set_option maxRecDepth 20000 in
theorem b_VR_removeAll_2 {l : Launch} {V : xV} {Q : xIt → xJt → xPt → Prop} {I : xIt} {J : xJt} {P : xPt} (hL : xL P) {v0 : Nat} (hs0 : xS0[v0]? = some (6, 0)) {v1 : Option Nat} {v2 : Int32} (h : (∃ a1 : Nat, v1 = some a1 ∧ xS0[a1]? = some (6, 0) ∧ (((I a1 2) ≤ v2 → Q I J P) ∧ (¬ (I a1 2) ≤ v2 → (vp_in v2 (xLn (a1 + 2)) ∧ (∃ Q2 : xIt → xJt → xPt → Prop, xMet l V y_VR_remove 1 0 0 [xq (some v0), xj (J (a1 + 2) v2.toNatClampNeg)] xS0 I J P (xPv Q2) ∧ ∀ (I2 : xIt) (J2 : xJt) (P2 : xPt), Q2 I2 J2 P2 → G_VR_removeAll l V Q 2 [(0, xq (some v0)), (1, xq v1), (2, xi (v2 + 1))] [] I2 J2 P2)))))) : G_VR_removeAll l V Q 2 [(0, xq (some v0)), (1, xq v1), (2, xi v2)] [] I J P := by
  refine xG_iload_n d_VR_removeAll_2 rfl rfl ?_
  refine xG_aload_n d_VR_removeAll_3 rfl rfl rfl ?_
  obtain ⟨a1, e1, s1, h⟩ := h
  refine xG_geti d_VR_removeAll_4 xf_VR_7 e1 s1 ?_
  refine xG_icmp_ge (tgt := 26) d_VR_removeAll_7 (by decide) (fun c => ?_) (fun c => ?_)
  · have h := h.1 c
    exact xG_return d_VR_removeAll_26 rfl ⟨rfl, hL, rfl, h⟩
  · have h := h.2 c
    refine xG_aload_n d_VR_removeAll_10 rfl rfl rfl ?_
    refine xG_aload_n d_VR_removeAll_11 rfl rfl rfl ?_
    refine xG_getq d_VR_removeAll_12 xf_VR_17 e1 s1 ?_
    refine xG_iload_n d_VR_removeAll_15 rfl rfl ?_
    refine xG_lald d_VR_removeAll_16 (lo_6_1 hL s1) (so_6_1 s1) h.1 ?_
    have h := h.2
    obtain ⟨Q2, hM, h⟩ := h
    refine xG_callv (as := [xj (J (a1 + 2) v2.toNatClampNeg)]) (rest := []) d_VR_removeAll_17 yv_VR_remove w3_158 rfl rfl rfl hs0 (by decide) rfl hM ⟨by decide, by decide⟩ (Nat.le_of_ble_eq_true rfl) ⟨Nat.zero_le _, Nat.zero_le _⟩ (fun r S2 I2 J2 P2 hp => ?_)
    obtain ⟨rfl, hL2, rfl, hq⟩ := hp
    have h := h I2 J2 P2 hq
    refine xG_iinc (v := v2 + 1) (lv' := [(2, xi (v2 + 1)), (0, xq (some v0)), (1, xq v1)]) d_VR_removeAll_20 rfl rfl (Nat.le_of_ble_eq_true rfl) rfl ?_
    refine xG_goto (tgt := 2) d_VR_removeAll_23 (by decide) ?_
    refine xG_pick [1, 2, 0] rfl ?_
    exact h
theorem e_VR_removeAll {l : Launch} {V : xV} {Q : xIt → xJt → xPt → Prop} {I : xIt} {J : xJt} {P : xPt} {v0 : Nat} {v1 : Option Nat} (h : G_VR_removeAll l V Q 0 [(0, xq (some v0)), (1, xq v1)] [] I J P) : xMet l V y_VR_removeAll 2 0 0 [xq (some v0), xq v1] xS0 I J P (xPv Q) := xMet_of (by decide) (Nat.le_of_ble_eq_true rfl) h

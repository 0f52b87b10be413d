abbrev G_EN_clear (l : Launch) (V : xV) (Q : xIt → xJt → xPt → Prop) (pc : Nat) (lv : List (Nat × xX)) (st : List xX) (I : xIt) (J : xJt) (P : xPt) : Prop := xG l V y_EN_clear (xR 2 0 0) (xFn V y_EN_clear (xR 2 0 0) (xPv Q)) pc lv st xS0 I J P (0, 0)
set_option maxRecDepth 20000 in
theorem b_EN_clear_0 {l : Launch} {V : xV} {Q : xIt → xJt → xPt → Prop} {I : xIt} {J : xJt} {P : xPt} (hL : xL P) {v0 : Nat} (hs0 : xS0[v0]? = some (5, 0)) (h : G_EN_clear l V Q 2 [(0, xq (some v0)), (1, xi 0)] [] I J P) : G_EN_clear l V Q 0 [(0, xq (some v0))] [] I J P := by
  refine xG_iconst (v := 0) d_EN_clear_0 rfl ?_
  refine xG_istore_n (lv' := [(1, xi 0), (0, xq (some v0))]) d_EN_clear_1 rfl (Nat.le_of_ble_eq_true rfl) rfl ?_
  refine xG_pick [1, 0] rfl ?_
  exact h
set_option maxRecDepth 20000 in
theorem b_EN_clear_2 {l : Launch} {V : xV} {Q : xIt → xJt → xPt → Prop} {I : xIt} {J : xJt} {P : xPt} (hL : xL P) {v0 : Nat} (hs0 : xS0[v0]? = some (5, 0)) {v1 : Int32} (h : ((5 ≤ v1 → (xL (xu P v0 1 none) ∧ Q I J (xu P v0 1 none))) ∧ (¬ 5 ≤ v1 → (vp_in v1 5 ∧ (∃ a2 : Nat, P (v0 + 1) v1.toNatClampNeg = some a2 ∧ xS0[a2]? = some (6, 0) ∧ (∃ Q3 : xIt → xJt → xPt → Prop, xMet l V y_VR_clear 1 0 0 [xq (some a2)] xS0 I J P (xPv Q3) ∧ ∀ (I3 : xIt) (J3 : xJt) (P3 : xPt), Q3 I3 J3 P3 → G_EN_clear l V Q 2 [(0, xq (some v0)), (1, xi (v1 + 1))] [] I3 J3 P3)))))) : G_EN_clear l V Q 2 [(0, xq (some v0)), (1, xi v1)] [] I J P := by
  refine xG_iload_n d_EN_clear_2 rfl rfl ?_
  refine xG_iconst (v := 5) d_EN_clear_3 rfl ?_
  refine xG_icmp_ge (tgt := 22) d_EN_clear_4 (by decide) (fun c => ?_) (fun c => ?_)
  · have h := h.1 c
    refine xG_aload_n d_EN_clear_22 rfl rfl rfl ?_
    refine xG_null d_EN_clear_23 ?_
    refine xG_putq d_EN_clear_24 xf_EN_17 (Or.inl rfl) rfl hs0 ?_
    have hL1 := h.1
    have h := h.2
    exact xG_return d_EN_clear_27 rfl ⟨rfl, hL1, rfl, h⟩
  · have h := h.2 c
    refine xG_aload_n d_EN_clear_7 rfl rfl rfl ?_
    refine xG_getq d_EN_clear_8 xf_EN_11 rfl hs0 ?_
    refine xG_iload_n d_EN_clear_11 rfl rfl ?_
    refine xG_aald (t := 0) d_EN_clear_12 (lo_5_0 hL hs0) (so_5_0 hs0) rfl h.1 ?_
    have h := h.2
    obtain ⟨a2, e2, s2, h⟩ := h
    obtain ⟨Q3, hM, h⟩ := h
    refine xG_callv (as := []) (rest := []) d_EN_clear_13 yv_VR_clear w3_65 rfl e2 rfl s2 (by decide) rfl hM ⟨by decide, by decide⟩ (Nat.le_of_ble_eq_true rfl) ⟨Nat.zero_le _, Nat.zero_le _⟩ (fun r S3 I3 J3 P3 hp => ?_)
    obtain ⟨rfl, hL3, rfl, hq⟩ := hp
    have h := h I3 J3 P3 hq
    refine xG_iinc (v := v1 + 1) (lv' := [(1, xi (v1 + 1)), (0, xq (some v0))]) d_EN_clear_16 rfl rfl (Nat.le_of_ble_eq_true rfl) rfl ?_
    refine xG_goto (tgt := 2) d_EN_clear_19 (by decide) ?_
    refine xG_pick [1, 0] rfl ?_
    exact h
theorem e_EN_clear {l : Launch} {V : xV} {Q : xIt → xJt → xPt → Prop} {I : xIt} {J : xJt} {P : xPt} {v0 : Nat} (h : G_EN_clear l V Q 0 [(0, xq (some v0))] [] I J P) : xMet l V y_EN_clear 2 0 0 [xq (some v0)] xS0 I J P (xPv Q) := xMet_of (by decide) (Nat.le_of_ble_eq_true rfl) h

abbrev G_EN_copy (l : Launch) (V : xV) (Q : xIt → xJt → xPt → Prop) (pc : Nat) (lv : List (Nat × xX)) (st : List xX) (I : xIt) (J : xJt) (P : xPt) : Prop := xG l V y_EN_copy (xR 3 0 0) (xFn V y_EN_copy (xR 3 0 0) (xPv Q)) pc lv st xS0 I J P (0, 0)
set_option maxRecDepth 20000 in
theorem b_EN_copy_0 {l : Launch} {V : xV} {Q : xIt → xJt → xPt → Prop} {I : xIt} {J : xJt} {P : xPt} (hL : xL P) {v0 : Nat} (hs0 : xS0[v0]? = some (5, 0)) {v1 : Option Nat} (h : G_EN_copy l V Q 2 [(0, xq (some v0)), (1, xq v1), (2, xi 0)] [] I J P) : G_EN_copy l V Q 0 [(0, xq (some v0)), (1, xq v1)] [] I J P := by
  refine xG_iconst (v := 0) d_EN_copy_0 rfl ?_
  refine xG_istore_n (lv' := [(2, xi 0), (0, xq (some v0)), (1, xq v1)]) d_EN_copy_1 rfl (Nat.le_of_ble_eq_true rfl) rfl ?_
  refine xG_pick [1, 2, 0] rfl ?_
  exact h
set_option maxRecDepth 20000 in
theorem b_EN_copy_2 {l : Launch} {V : xV} {Q : xIt → xJt → xPt → Prop} {I : xIt} {J : xJt} {P : xPt} (hL : xL P) {v0 : Nat} (hs0 : xS0[v0]? = some (5, 0)) {v1 : Option Nat} {v2 : Int32} (h : ((5 ≤ v2 → (∃ a1 : Nat, v1 = some a1 ∧ xS0[a1]? = some (5, 0) ∧ (xL (xu P v0 1 (P a1 1)) ∧ Q (xu I v0 2 (I a1 2)) (xu J v0 3 (J a1 3)) (xu P v0 1 (P a1 1))))) ∧ (¬ 5 ≤ v2 → (vp_in v2 5 ∧ (∃ a3 : Nat, v1 = some a3 ∧ xS0[a3]? = some (5, 0) ∧ (vp_in v2 5 ∧ (∃ a4 : Nat, P (v0 + 1) v2.toNatClampNeg = some a4 ∧ xS0[a4]? = some (6, 0) ∧ (∃ Q5 : xIt → xJt → xPt → Prop, xMet l V y_VR_copy 2 0 0 [xq (some a4), xq (P (a3 + 1) v2.toNatClampNeg)] xS0 I J P (xPv Q5) ∧ ∀ (I5 : xIt) (J5 : xJt) (P5 : xPt), Q5 I5 J5 P5 → G_EN_copy l V Q 2 [(0, xq (some v0)), (1, xq v1), (2, xi (v2 + 1))] [] I5 J5 P5)))))))) : G_EN_copy l V Q 2 [(0, xq (some v0)), (1, xq v1), (2, xi v2)] [] I J P := by
  refine xG_iload_n d_EN_copy_2 rfl rfl ?_
  refine xG_iconst (v := 5) d_EN_copy_3 rfl ?_
  refine xG_icmp_ge (tgt := 28) d_EN_copy_4 (by decide) (fun c => ?_) (fun c => ?_)
  · have h := h.1 c
    refine xG_aload_n d_EN_copy_28 rfl rfl rfl ?_
    refine xG_aload_n d_EN_copy_29 rfl rfl rfl ?_
    obtain ⟨a1, e1, s1, h⟩ := h
    refine xG_getq d_EN_copy_30 xf_EN_17 e1 s1 ?_
    refine xG_putq d_EN_copy_33 xf_EN_17 (Or.inl rfl) rfl hs0 ?_
    have hL2 := h.1
    have h := h.2
    refine xG_aload_n d_EN_copy_36 rfl rfl rfl ?_
    refine xG_aload_n d_EN_copy_37 rfl rfl rfl ?_
    refine xG_geti d_EN_copy_38 xf_EN_21 e1 s1 ?_
    refine xG_puti d_EN_copy_41 xf_EN_21 (Or.inl rfl) rfl hs0 rfl rfl ?_
    refine xG_aload_n d_EN_copy_44 rfl rfl rfl ?_
    refine xG_aload_n d_EN_copy_45 rfl rfl rfl ?_
    refine xG_getj d_EN_copy_46 xf_EN_27 e1 s1 ?_
    refine xG_putj d_EN_copy_49 xf_EN_27 (Or.inl rfl) rfl hs0 ?_
    exact xG_return d_EN_copy_52 rfl ⟨rfl, hL2, rfl, h⟩
  · have h := h.2 c
    refine xG_aload_n d_EN_copy_7 rfl rfl rfl ?_
    refine xG_getq d_EN_copy_8 xf_EN_11 rfl hs0 ?_
    refine xG_iload_n d_EN_copy_11 rfl rfl ?_
    refine xG_aald (t := 0) d_EN_copy_12 (lo_5_0 hL hs0) (so_5_0 hs0) rfl h.1 ?_
    have h := h.2
    refine xG_aload_n d_EN_copy_13 rfl rfl rfl ?_
    obtain ⟨a3, e3, s3, h⟩ := h
    refine xG_getq d_EN_copy_14 xf_EN_11 e3 s3 ?_
    refine xG_iload_n d_EN_copy_17 rfl rfl ?_
    refine xG_aald (t := 0) d_EN_copy_18 (lo_5_0 hL s3) (so_5_0 s3) rfl h.1 ?_
    have h := h.2
    obtain ⟨a4, e4, s4, h⟩ := h
    obtain ⟨Q5, hM, h⟩ := h
    refine xG_callv (as := [xq (P (a3 + 1) v2.toNatClampNeg)]) (rest := []) d_EN_copy_19 yv_VR_copy w3_120 rfl e4 rfl s4 (by decide) rfl hM ⟨by decide, by decide⟩ (Nat.le_of_ble_eq_true rfl) ⟨Nat.zero_le _, Nat.zero_le _⟩ (fun r S5 I5 J5 P5 hp => ?_)
    obtain ⟨rfl, hL5, rfl, hq⟩ := hp
    have h := h I5 J5 P5 hq
    refine xG_iinc (v := v2 + 1) (lv' := [(2, xi (v2 + 1)), (0, xq (some v0)), (1, xq v1)]) d_EN_copy_22 rfl rfl (Nat.le_of_ble_eq_true rfl) rfl ?_
    refine xG_goto (tgt := 2) d_EN_copy_25 (by decide) ?_
    refine xG_pick [1, 2, 0] rfl ?_
    exact h
theorem e_EN_copy {l : Launch} {V : xV} {Q : xIt → xJt → xPt → Prop} {I : xIt} {J : xJt} {P : xPt} {v0 : Nat} {v1 : Option Nat} (h : G_EN_copy l V Q 0 [(0, xq (some v0)), (1, xq v1)] [] I J P) : xMet l V y_EN_copy 3 0 0 [xq (some v0), xq v1] xS0 I J P (xPv Q) := xMet_of (by decide) (Nat.le_of_ble_eq_true rfl) h

abbrev G_EN_takeNamePart (l : Launch) (V : xV) (Q : xIt → xJt → xPt → Prop) (pc : Nat) (lv : List (Nat × xX)) (st : List xX) (I : xIt) (J : xJt) (P : xPt) : Prop := xG l V y_EN_takeNamePart (xR 1 0 0) (xFn V y_EN_takeNamePart (xR 1 0 0) (xPv Q)) pc lv st xS0 I J P (0, 0)
set_option maxRecDepth 20000 in
theorem b_EN_takeNamePart_0 {l : Launch} {V : xV} {Q : xIt → xJt → xPt → Prop} {I : xIt} {J : xJt} {P : xPt} (hL : xL P) {v0 : Nat} (hs0 : xS0[v0]? = some (5, 0)) {v1 : Option Nat} (h : (∃ a1 : Nat, v1 = some a1 ∧ xS0[a1]? = some (3, 0) ∧ Q (xu I v0 2 (I (a1 + 1) 0)) (xu J v0 3 (J (a1 + 3) 0)) P)) : G_EN_takeNamePart l V Q 0 [(0, xq (some v0)), (1, xq v1)] [] I J P := by
  refine xG_aload_n d_EN_takeNamePart_0 rfl rfl rfl ?_
  refine xG_aload_n d_EN_takeNamePart_1 rfl rfl rfl ?_
  obtain ⟨a1, e1, s1, h⟩ := h
  refine xG_getq d_EN_takeNamePart_2 xf_EN_41 e1 s1 ?_
  refine xG_iconst (v := 0) d_EN_takeNamePart_5 rfl ?_
  refine xG_iald d_EN_takeNamePart_6 (lo_3_0 hL s1) (so_3_0 s1) (x_vp (by decide)) ?_
  refine xG_topi (x' := I (a1 + 1) 0) (by first | rfl | exact xu_at | simp [xu]) ?_
  refine xG_puti d_EN_takeNamePart_7 xf_EN_21 (Or.inl rfl) rfl hs0 rfl rfl ?_
  refine xG_aload_n d_EN_takeNamePart_10 rfl rfl rfl ?_
  refine xG_aload_n d_EN_takeNamePart_11 rfl rfl rfl ?_
  refine xG_getq d_EN_takeNamePart_12 xf_EN_47 e1 s1 ?_
  refine xG_iconst (v := 0) d_EN_takeNamePart_15 rfl ?_
  refine xG_lald d_EN_takeNamePart_16 (lo_3_2 hL s1) (so_3_2 s1) (x_vp (by decide)) ?_
  refine xG_topj (x' := J (a1 + 3) 0) (by first | rfl | exact xu_at | simp [xu]) ?_
  refine xG_putj d_EN_takeNamePart_17 xf_EN_27 (Or.inl rfl) rfl hs0 ?_
  exact xG_return d_EN_takeNamePart_20 rfl ⟨rfl, hL, rfl, h⟩
theorem e_EN_takeNamePart {l : Launch} {V : xV} {Q : xIt → xJt → xPt → Prop} {I : xIt} {J : xJt} {P : xPt} {v0 : Nat} {v1 : Option Nat} (h : G_EN_takeNamePart l V Q 0 [(0, xq (some v0)), (1, xq v1)] [] I J P) : xMet l V y_EN_takeNamePart 1 0 0 [xq (some v0), xq v1] xS0 I J P (xPv Q) := xMet_of (by decide) (Nat.le_of_ble_eq_true rfl) h

abbrev G_EN_hasItsNamePart (l : Launch) (V : xV) (Q : Int32 → xIt → xJt → xPt → Prop) (pc : Nat) (lv : List (Nat × xX)) (st : List xX) (I : xIt) (J : xJt) (P : xPt) : Prop := xG l V y_EN_hasItsNamePart (xR 2 0 0) (xFn V y_EN_hasItsNamePart (xR 2 0 0) (xPi Q)) pc lv st xS0 I J P (0, 0)
set_option maxRecDepth 20000 in
theorem b_EN_hasItsNamePart_0 {l : Launch} {V : xV} {Q : Int32 → xIt → xJt → xPt → Prop} {I : xIt} {J : xJt} {P : xPt} (hL : xL P) {v0 : Nat} (hs0 : xS0[v0]? = some (5, 0)) (h : (vp_in (I v0 2) 5 ∧ (∃ a1 : Nat, P (v0 + 1) ((I v0 2).toNatClampNeg) = some a1 ∧ xS0[a1]? = some (6, 0) ∧ (∃ Q2 : Int32 → xIt → xJt → xPt → Prop, xMet l V y_VR_has 1 0 0 [xq (some a1), xj (J v0 3)] xS0 I J P (xPi Q2) ∧ ∀ (z2 : Int32) (I2 : xIt) (J2 : xJt) (P2 : xPt), Q2 z2 I2 J2 P2 → ((z2 = 0 ∨ z2 = 1) ∧ Q z2 I2 J2 P2))))) : G_EN_hasItsNamePart l V Q 0 [(0, xq (some v0))] [] I J P := by
  refine xG_aload_n d_EN_hasItsNamePart_0 rfl rfl rfl ?_
  refine xG_getq d_EN_hasItsNamePart_1 xf_EN_11 rfl hs0 ?_
  refine xG_aload_n d_EN_hasItsNamePart_4 rfl rfl rfl ?_
  refine xG_geti d_EN_hasItsNamePart_5 xf_EN_21 rfl hs0 ?_
  refine xG_aald (t := 0) d_EN_hasItsNamePart_8 (lo_5_0 hL hs0) (so_5_0 hs0) rfl h.1 ?_
  have h := h.2
  refine xG_topq (x' := P (v0 + 1) ((I v0 2).toNatClampNeg)) (by first | rfl | exact xu_at | simp [xu]) ?_
  refine xG_aload_n d_EN_hasItsNamePart_9 rfl rfl rfl ?_
  refine xG_getj d_EN_hasItsNamePart_10 xf_EN_27 rfl hs0 ?_
  obtain ⟨a1, e1, s1, h⟩ := h
  obtain ⟨Q2, hM, h⟩ := h
  refine xG_callv (as := [xj (J v0 3)]) (rest := []) d_EN_hasItsNamePart_13 yv_VR_has w3_110 rfl e1 rfl s1 (by decide) rfl hM ⟨by decide, by decide⟩ (Nat.le_of_ble_eq_true rfl) ⟨Nat.zero_le _, Nat.zero_le _⟩ (fun r S2 I2 J2 P2 hp => ?_)
  obtain ⟨rfl, hL2, z2, rfl, hq⟩ := hp
  have h := h z2 I2 J2 P2 hq
  exact xG_ireturn d_EN_hasItsNamePart_16 rfl (x_nb h.1) ⟨rfl, hL2, _, rfl, h.2⟩
theorem e_EN_hasItsNamePart {l : Launch} {V : xV} {Q : Int32 → xIt → xJt → xPt → Prop} {I : xIt} {J : xJt} {P : xPt} {v0 : Nat} (h : G_EN_hasItsNamePart l V Q 0 [(0, xq (some v0))] [] I J P) : xMet l V y_EN_hasItsNamePart 2 0 0 [xq (some v0)] xS0 I J P (xPi Q) := xMet_of (by decide) (Nat.le_of_ble_eq_true rfl) h

abbrev G_EN_isNamed (l : Launch) (V : xV) (Q : Int32 → xIt → xJt → xPt → Prop) (pc : Nat) (lv : List (Nat × xX)) (st : List xX) (I : xIt) (J : xJt) (P : xPt) : Prop := xG l V y_EN_isNamed (xR 1 0 0) (xFn V y_EN_isNamed (xR 1 0 0) (xPi Q)) pc lv st xS0 I J P (0, 0)
set_option maxRecDepth 20000 in
theorem b_EN_isNamed_0 {l : Launch} {V : xV} {Q : Int32 → xIt → xJt → xPt → Prop} {I : xIt} {J : xJt} {P : xPt} (hL : xL P) {v0 : Nat} (hs0 : xS0[v0]? = some (5, 0)) {v1 : Int32} {v2 : Int64} (h : ((¬ (I v0 2) = v1 → Q 0 I J P) ∧ ((I v0 2) = v1 → ((¬ (lg_cmp (J v0 3) v2) = 0 → Q 0 I J P) ∧ ((lg_cmp (J v0 3) v2) = 0 → Q 1 I J P))))) : G_EN_isNamed l V Q 0 [(0, xq (some v0)), (1, xi v1), (2, xj v2)] [] I J P := by
  refine xG_aload_n d_EN_isNamed_0 rfl rfl rfl ?_
  refine xG_geti d_EN_isNamed_1 xf_EN_21 rfl hs0 ?_
  refine xG_iload_n d_EN_isNamed_4 rfl rfl ?_
  refine xG_icmp_ne (tgt := 21) d_EN_isNamed_5 (by decide) (fun c => ?_) (fun c => ?_)
  · have h := h.1 c
    refine xG_iconst (v := 0) d_EN_isNamed_21 rfl ?_
    exact xG_ireturn d_EN_isNamed_22 rfl rfl ⟨rfl, hL, _, rfl, h⟩
  · have h := h.2 c
    refine xG_aload_n d_EN_isNamed_8 rfl rfl rfl ?_
    refine xG_getj d_EN_isNamed_9 xf_EN_27 rfl hs0 ?_
    refine xG_lload_n d_EN_isNamed_12 rfl rfl ?_
    refine xG_lcmp d_EN_isNamed_13 ?_
    refine xG_if_ne (tgt := 21) d_EN_isNamed_14 (by decide) (fun c => ?_) (fun c => ?_)
    · have h := h.1 c
      refine xG_iconst (v := 0) d_EN_isNamed_21 rfl ?_
      exact xG_ireturn d_EN_isNamed_22 rfl rfl ⟨rfl, hL, _, rfl, h⟩
    · have h := h.2 c
      refine xG_iconst (v := 1) d_EN_isNamed_17 rfl ?_
      refine xG_goto (tgt := 22) d_EN_isNamed_18 (by decide) ?_
      exact xG_ireturn d_EN_isNamed_22 rfl rfl ⟨rfl, hL, _, rfl, h⟩
theorem e_EN_isNamed {l : Launch} {V : xV} {Q : Int32 → xIt → xJt → xPt → Prop} {I : xIt} {J : xJt} {P : xPt} {v0 : Nat} {v1 : Int32} {v2 : Int64} (h : G_EN_isNamed l V Q 0 [(0, xq (some v0)), (1, xi v1), (2, xj v2)] [] I J P) : xMet l V y_EN_isNamed 1 0 0 [xq (some v0), xi v1, xj v2] xS0 I J P (xPi Q) := xMet_of (by decide) (Nat.le_of_ble_eq_true rfl) h

abbrev G_EN_isAtOrBelow (l : Launch) (V : xV) (Q : Int32 → xIt → xJt → xPt → Prop) (pc : Nat) (lv : List (Nat × xX)) (st : List xX) (I : xIt) (J : xJt) (P : xPt) : Prop := xG l V y_EN_isAtOrBelow (xR 1 0 0) (xFn V y_EN_isAtOrBelow (xR 1 0 0) (xPi Q)) pc lv st xS0 I J P (0, 0)
set_option maxRecDepth 20000 in
theorem b_EN_isAtOrBelow_0 {l : Launch} {V : xV} {Q : Int32 → xIt → xJt → xPt → Prop} {I : xIt} {J : xJt} {P : xPt} (hL : xL P) {v0 : Nat} (hs0 : xS0[v0]? = some (5, 0)) {v1 : Option Nat} (h : G_EN_isAtOrBelow l V Q 4 [(0, xq (some v0)), (1, xq v1), (2, xq (some v0)), (3, xi 0)] [] I J P) : G_EN_isAtOrBelow l V Q 0 [(0, xq (some v0)), (1, xq v1)] [] I J P := by
  refine xG_aload_n d_EN_isAtOrBelow_0 rfl rfl rfl ?_
  refine xG_astore_n (lv' := [(2, xq (some v0)), (0, xq (some v0)), (1, xq v1)]) d_EN_isAtOrBelow_1 rfl (Nat.le_of_ble_eq_true rfl) rfl rfl ?_
  refine xG_iconst (v := 0) d_EN_isAtOrBelow_2 rfl ?_
  refine xG_istore_n (lv' := [(3, xi 0), (2, xq (some v0)), (0, xq (some v0)), (1, xq v1)]) d_EN_isAtOrBelow_3 rfl (Nat.le_of_ble_eq_true rfl) rfl ?_
  refine xG_pick [2, 3, 1, 0] rfl ?_
  exact h
set_option maxRecDepth 20000 in
theorem b_EN_isAtOrBelow_4 {l : Launch} {V : xV} {Q : Int32 → xIt → xJt → xPt → Prop} {I : xIt} {J : xJt} {P : xPt} (hL : xL P) {v0 : Nat} (hs0 : xS0[v0]? = some (5, 0)) {v1 : Option Nat} {v2 : Option Nat} {v3 : Int32} (h : ((3 ≤ v3 → Q 0 I J P) ∧ (¬ 3 ≤ v3 → ((v2 = none → Q 0 I J P) ∧ (¬ v2 = none → ((¬ v2 = v1 → (∃ a1 : Nat, v2 = some a1 ∧ xS0[a1]? = some (5, 0) ∧ G_EN_isAtOrBelow l V Q 4 [(0, xq (some v0)), (1, xq v1), (2, xq (P a1 1)), (3, xi (v3 + 1))] [] I J P)) ∧ (v2 = v1 → Q 1 I J P))))))) : G_EN_isAtOrBelow l V Q 4 [(0, xq (some v0)), (1, xq v1), (2, xq v2), (3, xi v3)] [] I J P := by
  refine xG_iload_n d_EN_isAtOrBelow_4 rfl rfl ?_
  refine xG_iconst (v := 3) d_EN_isAtOrBelow_5 rfl ?_
  refine xG_icmp_ge (tgt := 31) d_EN_isAtOrBelow_6 (by decide) (fun c => ?_) (fun c => ?_)
  · have h := h.1 c
    refine xG_iconst (v := 0) d_EN_isAtOrBelow_31 rfl ?_
    exact xG_ireturn d_EN_isAtOrBelow_32 rfl rfl ⟨rfl, hL, _, rfl, h⟩
  · have h := h.2 c
    refine xG_aload_n d_EN_isAtOrBelow_9 rfl rfl rfl ?_
    refine xG_ifnull (tgt := 31) d_EN_isAtOrBelow_10 (by decide) (fun c => ?_) (fun c => ?_)
    · have h := h.1 c
      refine xG_iconst (v := 0) d_EN_isAtOrBelow_31 rfl ?_
      exact xG_ireturn d_EN_isAtOrBelow_32 rfl rfl ⟨rfl, hL, _, rfl, h⟩
    · have h := h.2 c
      refine xG_aload_n d_EN_isAtOrBelow_13 rfl rfl rfl ?_
      refine xG_aload_n d_EN_isAtOrBelow_14 rfl rfl rfl ?_
      refine xG_acmp_ne (tgt := 20) d_EN_isAtOrBelow_15 (by decide) (fun c => ?_) (fun c => ?_)
      · have h := h.1 c
        refine xG_aload_n d_EN_isAtOrBelow_20 rfl rfl rfl ?_
        obtain ⟨a1, e1, s1, h⟩ := h
        refine xG_getq d_EN_isAtOrBelow_21 xf_EN_17 e1 s1 ?_
        refine xG_astore_n (lv' := [(2, xq (P a1 1)), (0, xq (some v0)), (1, xq v1), (3, xi v3)]) d_EN_isAtOrBelow_24 rfl (Nat.le_of_ble_eq_true rfl) rfl rfl ?_
        refine xG_iinc (v := v3 + 1) (lv' := [(3, xi (v3 + 1)), (2, xq (P a1 1)), (0, xq (some v0)), (1, xq v1)]) d_EN_isAtOrBelow_25 rfl rfl (Nat.le_of_ble_eq_true rfl) rfl ?_
        refine xG_goto (tgt := 4) d_EN_isAtOrBelow_28 (by decide) ?_
        refine xG_pick [2, 3, 1, 0] rfl ?_
        exact h
      · have h := h.2 c
        refine xG_iconst (v := 1) d_EN_isAtOrBelow_18 rfl ?_
        exact xG_ireturn d_EN_isAtOrBelow_19 rfl rfl ⟨rfl, hL, _, rfl, h⟩
theorem e_EN_isAtOrBelow {l : Launch} {V : xV} {Q : Int32 → xIt → xJt → xPt → Prop} {I : xIt} {J : xJt} {P : xPt} {v0 : Nat} {v1 : Option Nat} (h : G_EN_isAtOrBelow l V Q 0 [(0, xq (some v0)), (1, xq v1)] [] I J P) : xMet l V y_EN_isAtOrBelow 1 0 0 [xq (some v0), xq v1] xS0 I J P (xPi Q) := xMet_of (by decide) (Nat.le_of_ble_eq_true rfl) h

abbrev G_EN_structuralClasses (l : Launch) (V : xV) (Q : Int32 → xIt → xJt → xPt → Prop) (pc : Nat) (lv : List (Nat × xX)) (st : List xX) (I : xIt) (J : xJt) (P : xPt) : Prop := xG l V y_EN_structuralClasses (xR 3 0 0) (xFn V y_EN_structuralClasses (xR 3 0 0) (xPi Q)) pc lv st xS0 I J P (0, 0)
set_option maxRecDepth 20000 in
theorem b_EN_structuralClasses_0 {l : Launch} {V : xV} {Q : Int32 → xIt → xJt → xPt → Prop} {I : xIt} {J : xJt} {P : xPt} (hL : xL P) {v0 : Nat} (hs0 : xS0[v0]? = some (5, 0)) (h : (∃ Q1 : Int32 → xIt → xJt → xPt → Prop, xMet l V y_EN_classSet 2 0 0 [xq (some v0)] xS0 I J P (xPi Q1) ∧ ∀ (z1 : Int32) (I1 : xIt) (J1 : xJt) (P1 : xPt), Q1 z1 I1 J1 P1 → Q (z1 &&& 3) I1 J1 P1)) : G_EN_structuralClasses l V Q 0 [(0, xq (some v0))] [] I J P := by
  refine xG_aload_n d_EN_structuralClasses_0 rfl rfl rfl ?_
  obtain ⟨Q1, hM, h⟩ := h
  refine xG_callv (as := []) (rest := []) d_EN_structuralClasses_1 yv_EN_classSet w3_101 rfl rfl rfl hs0 (by decide) rfl hM ⟨by decide, by decide⟩ (Nat.le_of_ble_eq_true rfl) ⟨Nat.zero_le _, Nat.zero_le _⟩ (fun r S1 I1 J1 P1 hp => ?_)
  obtain ⟨rfl, hL1, z1, rfl, hq⟩ := hp
  have h := h z1 I1 J1 P1 hq
  refine xG_iconst (v := 3) d_EN_structuralClasses_4 rfl ?_
  refine xG_iand d_EN_structuralClasses_5 ?_
  exact xG_ireturn d_EN_structuralClasses_6 rfl rfl ⟨rfl, hL1, _, rfl, h⟩
theorem e_EN_structuralClasses {l : Launch} {V : xV} {Q : Int32 → xIt → xJt → xPt → Prop} {I : xIt} {J : xJt} {P : xPt} {v0 : Nat} (h : G_EN_structuralClasses l V Q 0 [(0, xq (some v0))] [] I J P) : xMet l V y_EN_structuralClasses 3 0 0 [xq (some v0)] xS0 I J P (xPi Q) := xMet_of (by decide) (Nat.le_of_ble_eq_true rfl) h

abbrev G_EN_fitsSchema (l : Launch) (V : xV) (Q : Int32 → xIt → xJt → xPt → Prop) (pc : Nat) (lv : List (Nat × xX)) (st : List xX) (I : xIt) (J : xJt) (P : xPt) : Prop := xG l V y_EN_fitsSchema (xR 3 0 0) (xFn V y_EN_fitsSchema (xR 3 0 0) (xPi Q)) pc lv st xS0 I J P (0, 0)
set_option maxRecDepth 20000 in
theorem b_EN_fitsSchema_0 {l : Launch} {V : xV} {Q : Int32 → xIt → xJt → xPt → Prop} {I : xIt} {J : xJt} {P : xPt} (hL : xL P) {v0 : Nat} (hs0 : xS0[v0]? = some (5, 0)) (h : (∃ Q1 : Int32 → xIt → xJt → xPt → Prop, xMet l V y_EN_classSet 2 0 0 [xq (some v0)] xS0 I J P (xPi Q1) ∧ ∀ (z1 : Int32) (I1 : xIt) (J1 : xJt) (P1 : xPt), Q1 z1 I1 J1 P1 → (((z1 &&& 3) = 1 → G_EN_fitsSchema l V Q 24 [(0, xq (some v0)), (1, xi z1), (2, xi (z1 &&& 3))] [xi 1] I1 J1 P1) ∧ (¬ (z1 &&& 3) = 1 → ((¬ (z1 &&& 3) = 2 → G_EN_fitsSchema l V Q 24 [(0, xq (some v0)), (1, xi z1), (2, xi (z1 &&& 3))] [xi 0] I1 J1 P1) ∧ ((z1 &&& 3) = 2 → G_EN_fitsSchema l V Q 24 [(0, xq (some v0)), (1, xi z1), (2, xi (z1 &&& 3))] [xi 1] I1 J1 P1)))))) : G_EN_fitsSchema l V Q 0 [(0, xq (some v0))] [] I J P := by
  refine xG_aload_n d_EN_fitsSchema_0 rfl rfl rfl ?_
  obtain ⟨Q1, hM, h⟩ := h
  refine xG_callv (as := []) (rest := []) d_EN_fitsSchema_1 yv_EN_classSet w3_101 rfl rfl rfl hs0 (by decide) rfl hM ⟨by decide, by decide⟩ (Nat.le_of_ble_eq_true rfl) ⟨Nat.zero_le _, Nat.zero_le _⟩ (fun r S1 I1 J1 P1 hp => ?_)
  obtain ⟨rfl, hL1, z1, rfl, hq⟩ := hp
  have h := h z1 I1 J1 P1 hq
  refine xG_istore_n (lv' := [(1, xi z1), (0, xq (some v0))]) d_EN_fitsSchema_4 rfl (Nat.le_of_ble_eq_true rfl) rfl ?_
  refine xG_iload_n d_EN_fitsSchema_5 rfl rfl ?_
  refine xG_iconst (v := 3) d_EN_fitsSchema_6 rfl ?_
  refine xG_iand d_EN_fitsSchema_7 ?_
  refine xG_istore_n (lv' := [(2, xi (z1 &&& 3)), (1, xi z1), (0, xq (some v0))]) d_EN_fitsSchema_8 rfl (Nat.le_of_ble_eq_true rfl) rfl ?_
  refine xG_iload_n d_EN_fitsSchema_9 rfl rfl ?_
  refine xG_iconst (v := 1) d_EN_fitsSchema_10 rfl ?_
  refine xG_icmp_eq (tgt := 19) d_EN_fitsSchema_11 (by decide) (fun c => ?_) (fun c => ?_)
  · have h := h.1 c
    refine xG_iconst (v := 1) d_EN_fitsSchema_19 rfl ?_
    refine xG_goto (tgt := 24) d_EN_fitsSchema_20 (by decide) ?_
    refine xG_pick [2, 1, 0] rfl ?_
    exact h
  · have h := h.2 c
    refine xG_iload_n d_EN_fitsSchema_14 rfl rfl ?_
    refine xG_iconst (v := 2) d_EN_fitsSchema_15 rfl ?_
    refine xG_icmp_ne (tgt := 23) d_EN_fitsSchema_16 (by decide) (fun c => ?_) (fun c => ?_)
    · have h := h.1 c
      refine xG_iconst (v := 0) d_EN_fitsSchema_23 rfl ?_
      refine xG_pick [2, 1, 0] rfl ?_
      exact h
    · have h := h.2 c
      refine xG_iconst (v := 1) d_EN_fitsSchema_19 rfl ?_
      refine xG_goto (tgt := 24) d_EN_fitsSchema_20 (by decide) ?_
      refine xG_pick [2, 1, 0] rfl ?_
      exact h
set_option maxRecDepth 20000 in
theorem b_EN_fitsSchema_24 {l : Launch} {V : xV} {Q : Int32 → xIt → xJt → xPt → Prop} {I : xIt} {J : xJt} {P : xPt} (hL : xL P) {v0 : Nat} (hs0 : xS0[v0]? = some (5, 0)) {v1 : Int32} {v2 : Int32} {u0 : Int32} (h : ((u0 = 0 → Q 0 I J P) ∧ (¬ u0 = 0 → ((¬ (v1 &&& 8) = 0 → Q 0 I J P) ∧ ((v1 &&& 8) = 0 → (∃ a1 : Nat, P (v0 + 1) 1 = some a1 ∧ xS0[a1]? = some (6, 0) ∧ ((¬ (I a1 2) = 0 → ((¬ v2 = 2 → (((v1 &&& 4) = 0 → G_EN_fitsSchema l V Q 84 [(0, xq (some v0)), (1, xi v1), (2, xi v2), (3, xi u0)] [xi 0] I J P) ∧ (¬ (v1 &&& 4) = 0 → G_EN_fitsSchema l V Q 84 [(0, xq (some v0)), (1, xi v1), (2, xi v2), (3, xi u0)] [xi 1] I J P))) ∧ (v2 = 2 → (∃ a2 : Nat, P (v0 + 1) 3 = some a2 ∧ xS0[a2]? = some (6, 0) ∧ (((I a2 2) ≤ 0 → Q 0 I J P) ∧ (¬ (I a2 2) ≤ 0 → Q 1 I J P)))))) ∧ ((I a1 2) = 0 → Q 0 I J P)))))))) : G_EN_fitsSchema l V Q 24 [(0, xq (some v0)), (1, xi v1), (2, xi v2)] [xi u0] I J P := by
  refine xG_istore_n (lv' := [(3, xi u0), (0, xq (some v0)), (1, xi v1), (2, xi v2)]) d_EN_fitsSchema_24 rfl (Nat.le_of_ble_eq_true rfl) rfl ?_
  refine xG_iload_n d_EN_fitsSchema_25 rfl rfl ?_
  refine xG_if_eq (tgt := 48) d_EN_fitsSchema_26 (by decide) (fun c => ?_) (fun c => ?_)
  · have h := h.1 c
    refine xG_iconst (v := 0) d_EN_fitsSchema_48 rfl ?_
    exact xG_ireturn d_EN_fitsSchema_49 rfl rfl ⟨rfl, hL, _, rfl, h⟩
  · have h := h.2 c
    refine xG_iload_n d_EN_fitsSchema_29 rfl rfl ?_
    refine xG_bipush (v := 8) d_EN_fitsSchema_30 rfl ?_
    refine xG_iand d_EN_fitsSchema_32 ?_
    refine xG_if_ne (tgt := 48) d_EN_fitsSchema_33 (by decide) (fun c => ?_) (fun c => ?_)
    · have h := h.1 c
      refine xG_iconst (v := 0) d_EN_fitsSchema_48 rfl ?_
      exact xG_ireturn d_EN_fitsSchema_49 rfl rfl ⟨rfl, hL, _, rfl, h⟩
    · have h := h.2 c
      refine xG_aload_n d_EN_fitsSchema_36 rfl rfl rfl ?_
      refine xG_getq d_EN_fitsSchema_37 xf_EN_11 rfl hs0 ?_
      refine xG_iconst (v := 1) d_EN_fitsSchema_40 rfl ?_
      refine xG_aald (t := 0) d_EN_fitsSchema_41 (lo_5_0 hL hs0) (so_5_0 hs0) rfl (x_vp (by decide)) ?_
      refine xG_topq (x' := P (v0 + 1) 1) (by first | rfl | exact xu_at | simp [xu]) ?_
      obtain ⟨a1, e1, s1, h⟩ := h
      refine xG_geti d_EN_fitsSchema_42 xf_EN_59 e1 s1 ?_
      refine xG_if_ne (tgt := 50) d_EN_fitsSchema_45 (by decide) (fun c => ?_) (fun c => ?_)
      · have h := h.1 c
        refine xG_iload_n d_EN_fitsSchema_50 rfl rfl ?_
        refine xG_iconst (v := 2) d_EN_fitsSchema_51 rfl ?_
        refine xG_icmp_ne (tgt := 73) d_EN_fitsSchema_52 (by decide) (fun c => ?_) (fun c => ?_)
        · have h := h.1 c
          refine xG_iload_n d_EN_fitsSchema_73 rfl rfl ?_
          refine xG_iconst (v := 4) d_EN_fitsSchema_74 rfl ?_
          refine xG_iand d_EN_fitsSchema_75 ?_
          refine xG_if_eq (tgt := 83) d_EN_fitsSchema_76 (by decide) (fun c => ?_) (fun c => ?_)
          · have h := h.1 c
            refine xG_iconst (v := 0) d_EN_fitsSchema_83 rfl ?_
            refine xG_pick [1, 2, 3, 0] rfl ?_
            exact h
          · have h := h.2 c
            refine xG_iconst (v := 1) d_EN_fitsSchema_79 rfl ?_
            refine xG_goto (tgt := 84) d_EN_fitsSchema_80 (by decide) ?_
            refine xG_pick [1, 2, 3, 0] rfl ?_
            exact h
        · have h := h.2 c
          refine xG_aload_n d_EN_fitsSchema_55 rfl rfl rfl ?_
          refine xG_getq d_EN_fitsSchema_56 xf_EN_11 rfl hs0 ?_
          refine xG_iconst (v := 3) d_EN_fitsSchema_59 rfl ?_
          refine xG_aald (t := 0) d_EN_fitsSchema_60 (lo_5_0 hL hs0) (so_5_0 hs0) rfl (x_vp (by decide)) ?_
          refine xG_topq (x' := P (v0 + 1) 3) (by first | rfl | exact xu_at | simp [xu]) ?_
          obtain ⟨a2, e2, s2, h⟩ := h
          refine xG_geti d_EN_fitsSchema_61 xf_EN_59 e2 s2 ?_
          refine xG_if_le (tgt := 71) d_EN_fitsSchema_64 (by decide) (fun c => ?_) (fun c => ?_)
          · have h := h.1 c
            refine xG_iconst (v := 0) d_EN_fitsSchema_71 rfl ?_
            exact xG_ireturn d_EN_fitsSchema_72 rfl rfl ⟨rfl, hL, _, rfl, h⟩
          · have h := h.2 c
            refine xG_iconst (v := 1) d_EN_fitsSchema_67 rfl ?_
            refine xG_goto (tgt := 72) d_EN_fitsSchema_68 (by decide) ?_
            exact xG_ireturn d_EN_fitsSchema_72 rfl rfl ⟨rfl, hL, _, rfl, h⟩
      · have h := h.2 c
        refine xG_iconst (v := 0) d_EN_fitsSchema_48 rfl ?_
        exact xG_ireturn d_EN_fitsSchema_49 rfl rfl ⟨rfl, hL, _, rfl, h⟩
set_option maxRecDepth 20000 in
theorem b_EN_fitsSchema_84 {l : Launch} {V : xV} {Q : Int32 → xIt → xJt → xPt → Prop} {I : xIt} {J : xJt} {P : xPt} (hL : xL P) {v0 : Nat} (hs0 : xS0[v0]? = some (5, 0)) {v1 : Int32} {v2 : Int32} {v3 : Int32} {u0 : Int32} (h : ((¬ u0 = 0 → Q 1 I J P) ∧ (u0 = 0 → (∃ a1 : Nat, P (v0 + 1) 3 = some a1 ∧ xS0[a1]? = some (6, 0) ∧ ((¬ (I a1 2) = 0 → Q 0 I J P) ∧ ((I a1 2) = 0 → (∃ a2 : Nat, P (v0 + 1) 4 = some a2 ∧ xS0[a2]? = some (6, 0) ∧ ((¬ (I a2 2) = 0 → Q 0 I J P) ∧ ((I a2 2) = 0 → Q 1 I J P))))))))) : G_EN_fitsSchema l V Q 84 [(0, xq (some v0)), (1, xi v1), (2, xi v2), (3, xi v3)] [xi u0] I J P := by
  refine xG_istore (lv' := [(4, xi u0), (0, xq (some v0)), (1, xi v1), (2, xi v2), (3, xi v3)]) d_EN_fitsSchema_84 (Nat.le_of_ble_eq_true rfl) rfl ?_
  refine xG_iload d_EN_fitsSchema_86 rfl ?_
  refine xG_if_ne (tgt := 115) d_EN_fitsSchema_88 (by decide) (fun c => ?_) (fun c => ?_)
  · have h := h.1 c
    refine xG_iconst (v := 1) d_EN_fitsSchema_115 rfl ?_
    refine xG_goto (tgt := 120) d_EN_fitsSchema_116 (by decide) ?_
    exact xG_ireturn d_EN_fitsSchema_120 rfl rfl ⟨rfl, hL, _, rfl, h⟩
  · have h := h.2 c
    refine xG_aload_n d_EN_fitsSchema_91 rfl rfl rfl ?_
    refine xG_getq d_EN_fitsSchema_92 xf_EN_11 rfl hs0 ?_
    refine xG_iconst (v := 3) d_EN_fitsSchema_95 rfl ?_
    refine xG_aald (t := 0) d_EN_fitsSchema_96 (lo_5_0 hL hs0) (so_5_0 hs0) rfl (x_vp (by decide)) ?_
    refine xG_topq (x' := P (v0 + 1) 3) (by first | rfl | exact xu_at | simp [xu]) ?_
    obtain ⟨a1, e1, s1, h⟩ := h
    refine xG_geti d_EN_fitsSchema_97 xf_EN_59 e1 s1 ?_
    refine xG_if_ne (tgt := 119) d_EN_fitsSchema_100 (by decide) (fun c => ?_) (fun c => ?_)
    · have h := h.1 c
      refine xG_iconst (v := 0) d_EN_fitsSchema_119 rfl ?_
      exact xG_ireturn d_EN_fitsSchema_120 rfl rfl ⟨rfl, hL, _, rfl, h⟩
    · have h := h.2 c
      refine xG_aload_n d_EN_fitsSchema_103 rfl rfl rfl ?_
      refine xG_getq d_EN_fitsSchema_104 xf_EN_11 rfl hs0 ?_
      refine xG_iconst (v := 4) d_EN_fitsSchema_107 rfl ?_
      refine xG_aald (t := 0) d_EN_fitsSchema_108 (lo_5_0 hL hs0) (so_5_0 hs0) rfl (x_vp (by decide)) ?_
      refine xG_topq (x' := P (v0 + 1) 4) (by first | rfl | exact xu_at | simp [xu]) ?_
      obtain ⟨a2, e2, s2, h⟩ := h
      refine xG_geti d_EN_fitsSchema_109 xf_EN_59 e2 s2 ?_
      refine xG_if_ne (tgt := 119) d_EN_fitsSchema_112 (by decide) (fun c => ?_) (fun c => ?_)
      · have h := h.1 c
        refine xG_iconst (v := 0) d_EN_fitsSchema_119 rfl ?_
        exact xG_ireturn d_EN_fitsSchema_120 rfl rfl ⟨rfl, hL, _, rfl, h⟩
      · have h := h.2 c
        refine xG_iconst (v := 1) d_EN_fitsSchema_115 rfl ?_
        refine xG_goto (tgt := 120) d_EN_fitsSchema_116 (by decide) ?_
        exact xG_ireturn d_EN_fitsSchema_120 rfl rfl ⟨rfl, hL, _, rfl, h⟩
theorem e_EN_fitsSchema {l : Launch} {V : xV} {Q : Int32 → xIt → xJt → xPt → Prop} {I : xIt} {J : xJt} {P : xPt} {v0 : Nat} (h : G_EN_fitsSchema l V Q 0 [(0, xq (some v0))] [] I J P) : xMet l V y_EN_fitsSchema 3 0 0 [xq (some v0)] xS0 I J P (xPi Q) := xMet_of (by decide) (Nat.le_of_ble_eq_true rfl) h

abbrev G_EN_classSet (l : Launch) (V : xV) (Q : Int32 → xIt → xJt → xPt → Prop) (pc : Nat) (lv : List (Nat × xX)) (st : List xX) (I : xIt) (J : xJt) (P : xPt) : Prop := xG l V y_EN_classSet (xR 2 0 0) (xFn V y_EN_classSet (xR 2 0 0) (xPi Q)) pc lv st xS0 I J P (0, 0)
set_option maxRecDepth 20000 in
theorem b_EN_classSet_0 {l : Launch} {V : xV} {Q : Int32 → xIt → xJt → xPt → Prop} {I : xIt} {J : xJt} {P : xPt} (hL : xL P) {v0 : Nat} (hs0 : xS0[v0]? = some (5, 0)) (h : G_EN_classSet l V Q 11 [(0, xq (some v0)), (1, xq (P (v0 + 1) 0)), (2, xi 0), (3, xi 0)] [] I J P) : G_EN_classSet l V Q 0 [(0, xq (some v0))] [] I J P := by
  refine xG_aload_n d_EN_classSet_0 rfl rfl rfl ?_
  refine xG_getq d_EN_classSet_1 xf_EN_11 rfl hs0 ?_
  refine xG_iconst (v := 0) d_EN_classSet_4 rfl ?_
  refine xG_aald (t := 0) d_EN_classSet_5 (lo_5_0 hL hs0) (so_5_0 hs0) rfl (x_vp (by decide)) ?_
  refine xG_topq (x' := P (v0 + 1) 0) (by first | rfl | exact xu_at | simp [xu]) ?_
  refine xG_astore_n (lv' := [(1, xq (P (v0 + 1) 0)), (0, xq (some v0))]) d_EN_classSet_6 rfl (Nat.le_of_ble_eq_true rfl) rfl rfl ?_
  refine xG_iconst (v := 0) d_EN_classSet_7 rfl ?_
  refine xG_istore_n (lv' := [(2, xi 0), (1, xq (P (v0 + 1) 0)), (0, xq (some v0))]) d_EN_classSet_8 rfl (Nat.le_of_ble_eq_true rfl) rfl ?_
  refine xG_iconst (v := 0) d_EN_classSet_9 rfl ?_
  refine xG_istore_n (lv' := [(3, xi 0), (2, xi 0), (1, xq (P (v0 + 1) 0)), (0, xq (some v0))]) d_EN_classSet_10 rfl (Nat.le_of_ble_eq_true rfl) rfl ?_
  refine xG_pick [3, 2, 1, 0] rfl ?_
  exact h
set_option maxRecDepth 20000 in
theorem b_EN_classSet_11 {l : Launch} {V : xV} {Q : Int32 → xIt → xJt → xPt → Prop} {I : xIt} {J : xJt} {P : xPt} (hL : xL P) {v0 : Nat} (hs0 : xS0[v0]? = some (5, 0)) {v1 : Option Nat} {v2 : Int32} {v3 : Int32} (h : (∃ a1 : Nat, v1 = some a1 ∧ xS0[a1]? = some (6, 0) ∧ (((I a1 2) ≤ v3 → Q v2 I J P) ∧ (¬ (I a1 2) ≤ v3 → (vp_in v3 (xLn (a1 + 2)) ∧ (∃ Q2 : Int32 → xIt → xJt → xPt → Prop, xMet l V y_PK_byteAt 1 0 0 [xj (J (a1 + 2) v3.toNatClampNeg), xi 0] xS0 I J P (xPi Q2) ∧ ∀ (z2 : Int32) (I2 : xIt) (J2 : xJt) (P2 : xPt), Q2 z2 I2 J2 P2 → ((z2 = 103 → G_EN_classSet l V Q 11 [(0, xq (some v0)), (1, xq v1), (2, xi (v2 ||| 1)), (3, xi (v3 + 1))] [] I2 J2 P2) ∧ (z2 = 104 → G_EN_classSet l V Q 11 [(0, xq (some v0)), (1, xq v1), (2, xi (v2 ||| 2)), (3, xi (v3 + 1))] [] I2 J2 P2) ∧ (z2 = 120 → G_EN_classSet l V Q 11 [(0, xq (some v0)), (1, xq v1), (2, xi (v2 ||| 4)), (3, xi (v3 + 1))] [] I2 J2 P2) ∧ (¬ z2 = 103 → ¬ z2 = 104 → ¬ z2 = 120 → G_EN_classSet l V Q 11 [(0, xq (some v0)), (1, xq v1), (2, xi (v2 ||| 8)), (3, xi (v3 + 1))] [] I2 J2 P2)))))))) : G_EN_classSet l V Q 11 [(0, xq (some v0)), (1, xq v1), (2, xi v2), (3, xi v3)] [] I J P := by
  refine xG_iload_n d_EN_classSet_11 rfl rfl ?_
  refine xG_aload_n d_EN_classSet_12 rfl rfl rfl ?_
  obtain ⟨a1, e1, s1, h⟩ := h
  refine xG_geti d_EN_classSet_13 xf_EN_59 e1 s1 ?_
  refine xG_icmp_ge (tgt := 96) d_EN_classSet_16 (by decide) (fun c => ?_) (fun c => ?_)
  · have h := h.1 c
    refine xG_iload_n d_EN_classSet_96 rfl rfl ?_
    exact xG_ireturn d_EN_classSet_97 rfl rfl ⟨rfl, hL, _, rfl, h⟩
  · have h := h.2 c
    refine xG_aload_n d_EN_classSet_19 rfl rfl rfl ?_
    refine xG_getq d_EN_classSet_20 xf_EN_62 e1 s1 ?_
    refine xG_iload_n d_EN_classSet_23 rfl rfl ?_
    refine xG_lald d_EN_classSet_24 (lo_6_1 hL s1) (so_6_1 s1) h.1 ?_
    have h := h.2
    refine xG_iconst (v := 0) d_EN_classSet_25 rfl ?_
    obtain ⟨Q2, hM, h⟩ := h
    refine xG_calls (as := [xj (J (a1 + 2) v3.toNatClampNeg), xi 0]) (rest := []) d_EN_classSet_26 ys_PK_byteAt w3_105 rfl rfl hM ⟨by decide, by decide⟩ (Nat.le_of_ble_eq_true rfl) ⟨Nat.zero_le _, Nat.zero_le _⟩ (fun r S2 I2 J2 P2 hp => ?_)
    obtain ⟨rfl, hL2, z2, rfl, hq⟩ := hp
    have h := h z2 I2 J2 P2 hq
    by_cases c0 : z2 = 103
    · have h := h.1 c0
      refine xG_topi (x' := 103) c0 ?_
      refine xG_lookup (off := 35) (tgt := 64) d_EN_classSet_29 (by decide) rfl (by decide) ?_
      refine xG_iload_n d_EN_classSet_64 rfl rfl ?_
      refine xG_iconst (v := 1) d_EN_classSet_65 rfl ?_
      refine xG_ior d_EN_classSet_66 ?_
      refine xG_istore_n (lv' := [(2, xi (v2 ||| 1)), (0, xq (some v0)), (1, xq v1), (3, xi v3)]) d_EN_classSet_67 rfl (Nat.le_of_ble_eq_true rfl) rfl ?_
      refine xG_goto (tgt := 90) d_EN_classSet_68 (by decide) ?_
      refine xG_iinc (v := v3 + 1) (lv' := [(3, xi (v3 + 1)), (2, xi (v2 ||| 1)), (0, xq (some v0)), (1, xq v1)]) d_EN_classSet_90 rfl rfl (Nat.le_of_ble_eq_true rfl) rfl ?_
      refine xG_goto (tgt := 11) d_EN_classSet_93 (by decide) ?_
      refine xG_pick [2, 3, 1, 0] rfl ?_
      exact h
    by_cases c1 : z2 = 104
    · have h := h.2.1 c1
      refine xG_topi (x' := 104) c1 ?_
      refine xG_lookup (off := 42) (tgt := 71) d_EN_classSet_29 (by decide) rfl (by decide) ?_
      refine xG_iload_n d_EN_classSet_71 rfl rfl ?_
      refine xG_iconst (v := 2) d_EN_classSet_72 rfl ?_
      refine xG_ior d_EN_classSet_73 ?_
      refine xG_istore_n (lv' := [(2, xi (v2 ||| 2)), (0, xq (some v0)), (1, xq v1), (3, xi v3)]) d_EN_classSet_74 rfl (Nat.le_of_ble_eq_true rfl) rfl ?_
      refine xG_goto (tgt := 90) d_EN_classSet_75 (by decide) ?_
      refine xG_iinc (v := v3 + 1) (lv' := [(3, xi (v3 + 1)), (2, xi (v2 ||| 2)), (0, xq (some v0)), (1, xq v1)]) d_EN_classSet_90 rfl rfl (Nat.le_of_ble_eq_true rfl) rfl ?_
      refine xG_goto (tgt := 11) d_EN_classSet_93 (by decide) ?_
      refine xG_pick [2, 3, 1, 0] rfl ?_
      exact h
    by_cases c2 : z2 = 120
    · have h := h.2.2.1 c2
      refine xG_topi (x' := 120) c2 ?_
      refine xG_lookup (off := 49) (tgt := 78) d_EN_classSet_29 (by decide) rfl (by decide) ?_
      refine xG_iload_n d_EN_classSet_78 rfl rfl ?_
      refine xG_iconst (v := 4) d_EN_classSet_79 rfl ?_
      refine xG_ior d_EN_classSet_80 ?_
      refine xG_istore_n (lv' := [(2, xi (v2 ||| 4)), (0, xq (some v0)), (1, xq v1), (3, xi v3)]) d_EN_classSet_81 rfl (Nat.le_of_ble_eq_true rfl) rfl ?_
      refine xG_goto (tgt := 90) d_EN_classSet_82 (by decide) ?_
      refine xG_iinc (v := v3 + 1) (lv' := [(3, xi (v3 + 1)), (2, xi (v2 ||| 4)), (0, xq (some v0)), (1, xq v1)]) d_EN_classSet_90 rfl rfl (Nat.le_of_ble_eq_true rfl) rfl ?_
      refine xG_goto (tgt := 11) d_EN_classSet_93 (by decide) ?_
      refine xG_pick [2, 3, 1, 0] rfl ?_
      exact h
    have h := h.2.2.2 c0 c1 c2
    refine xG_lookup (off := 56) (tgt := 85) d_EN_classSet_29 (by decide) (by rw [lv_osw c0 (by decide)]; rw [lv_osw c1 (by decide)]; rw [lv_osw c2 (by decide)]; rfl) (by decide) ?_
    refine xG_iload_n d_EN_classSet_85 rfl rfl ?_
    refine xG_bipush (v := 8) d_EN_classSet_86 rfl ?_
    refine xG_ior d_EN_classSet_88 ?_
    refine xG_istore_n (lv' := [(2, xi (v2 ||| 8)), (0, xq (some v0)), (1, xq v1), (3, xi v3)]) d_EN_classSet_89 rfl (Nat.le_of_ble_eq_true rfl) rfl ?_
    refine xG_iinc (v := v3 + 1) (lv' := [(3, xi (v3 + 1)), (2, xi (v2 ||| 8)), (0, xq (some v0)), (1, xq v1)]) d_EN_classSet_90 rfl rfl (Nat.le_of_ble_eq_true rfl) rfl ?_
    refine xG_goto (tgt := 11) d_EN_classSet_93 (by decide) ?_
    refine xG_pick [2, 3, 1, 0] rfl ?_
    exact h
theorem e_EN_classSet {l : Launch} {V : xV} {Q : Int32 → xIt → xJt → xPt → Prop} {I : xIt} {J : xJt} {P : xPt} {v0 : Nat} (h : G_EN_classSet l V Q 0 [(0, xq (some v0))] [] I J P) : xMet l V y_EN_classSet 2 0 0 [xq (some v0)] xS0 I J P (xPi Q) := xMet_of (by decide) (Nat.le_of_ble_eq_true rfl) h

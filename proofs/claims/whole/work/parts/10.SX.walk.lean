abbrev G_SX_smallLetter (l : Launch) (V : xV) (Q : Int32 → xIt → xJt → xPt → Prop) (pc : Nat) (lv : List (Nat × xX)) (st : List xX) (I : xIt) (J : xJt) (P : xPt) : Prop := xG l V y_SX_smallLetter (xR 1 0 0) (xFn V y_SX_smallLetter (xR 1 0 0) (xPi Q)) pc lv st xS0 I J P (0, 0)
set_option maxRecDepth 20000 in
theorem b_SX_smallLetter_0 {l : Launch} {V : xV} {Q : Int32 → xIt → xJt → xPt → Prop} {I : xIt} {J : xJt} {P : xPt} (hL : xL P) {v0 : Int32} (h : ((v0 < 65 → Q v0 I J P) ∧ (¬ v0 < 65 → ((90 < v0 → Q v0 I J P) ∧ (¬ 90 < v0 → Q ((v0 + 97) - 65) I J P))))) : G_SX_smallLetter l V Q 0 [(0, xi v0)] [] I J P := by
  refine xG_iload_n d_SX_smallLetter_0 rfl rfl ?_
  refine xG_bipush (v := 65) d_SX_smallLetter_1 rfl ?_
  refine xG_icmp_lt (tgt := 22) d_SX_smallLetter_3 (by decide) (fun c => ?_) (fun c => ?_)
  · have h := h.1 c
    refine xG_iload_n d_SX_smallLetter_22 rfl rfl ?_
    exact xG_ireturn d_SX_smallLetter_23 rfl rfl ⟨rfl, hL, _, rfl, h⟩
  · have h := h.2 c
    refine xG_iload_n d_SX_smallLetter_6 rfl rfl ?_
    refine xG_bipush (v := 90) d_SX_smallLetter_7 rfl ?_
    refine xG_icmp_gt (tgt := 22) d_SX_smallLetter_9 (by decide) (fun c => ?_) (fun c => ?_)
    · have h := h.1 c
      refine xG_iload_n d_SX_smallLetter_22 rfl rfl ?_
      exact xG_ireturn d_SX_smallLetter_23 rfl rfl ⟨rfl, hL, _, rfl, h⟩
    · have h := h.2 c
      refine xG_iload_n d_SX_smallLetter_12 rfl rfl ?_
      refine xG_bipush (v := 97) d_SX_smallLetter_13 rfl ?_
      refine xG_iadd d_SX_smallLetter_15 ?_
      refine xG_bipush (v := 65) d_SX_smallLetter_16 rfl ?_
      refine xG_isub d_SX_smallLetter_18 ?_
      refine xG_goto (tgt := 23) d_SX_smallLetter_19 (by decide) ?_
      exact xG_ireturn d_SX_smallLetter_23 rfl rfl ⟨rfl, hL, _, rfl, h⟩
theorem e_SX_smallLetter {l : Launch} {V : xV} {Q : Int32 → xIt → xJt → xPt → Prop} {I : xIt} {J : xJt} {P : xPt} {v0 : Int32} (h : G_SX_smallLetter l V Q 0 [(0, xi v0)] [] I J P) : xMet l V y_SX_smallLetter 1 0 0 [xi v0] xS0 I J P (xPi Q) := xMet_of (by decide) (Nat.le_of_ble_eq_true rfl) h

abbrev G_SX_typeOf (l : Launch) (V : xV) (Q : Int32 → xIt → xJt → xPt → Prop) (pc : Nat) (lv : List (Nat × xX)) (st : List xX) (I : xIt) (J : xJt) (P : xPt) : Prop := xG l V y_SX_typeOf (xR 2 0 0) (xFn V y_SX_typeOf (xR 2 0 0) (xPi Q)) pc lv st xS0 I J P (0, 0)
set_option maxRecDepth 20000 in
theorem b_SX_typeOf_0 {l : Launch} {V : xV} {Q : Int32 → xIt → xJt → xPt → Prop} {I : xIt} {J : xJt} {P : xPt} (hL : xL P) {v0 : Int32} (h : (∃ Q1 : Int32 → xIt → xJt → xPt → Prop, xMet l V y_SX_smallLetter 1 0 0 [xi v0] xS0 I J P (xPi Q1) ∧ ∀ (z1 : Int32) (I1 : xIt) (J1 : xJt) (P1 : xPt), Q1 z1 I1 J1 P1 → G_SX_typeOf l V Q 7 [(0, xi v0), (1, xi z1), (2, xi 0)] [] I1 J1 P1)) : G_SX_typeOf l V Q 0 [(0, xi v0)] [] I J P := by
  refine xG_iload_n d_SX_typeOf_0 rfl rfl ?_
  obtain ⟨Q1, hM, h⟩ := h
  refine xG_calls (as := [xi v0]) (rest := []) d_SX_typeOf_1 ys_SX_smallLetter w2_144 rfl rfl hM ⟨by decide, by decide⟩ (Nat.le_of_ble_eq_true rfl) ⟨Nat.zero_le _, Nat.zero_le _⟩ (fun r S1 I1 J1 P1 hp => ?_)
  obtain ⟨rfl, hL1, z1, rfl, hq⟩ := hp
  have h := h z1 I1 J1 P1 hq
  refine xG_istore_n (lv' := [(1, xi z1), (0, xi v0)]) d_SX_typeOf_4 rfl (Nat.le_of_ble_eq_true rfl) rfl ?_
  refine xG_iconst (v := 0) d_SX_typeOf_5 rfl ?_
  refine xG_istore_n (lv' := [(2, xi 0), (1, xi z1), (0, xi v0)]) d_SX_typeOf_6 rfl (Nat.le_of_ble_eq_true rfl) rfl ?_
  refine xG_pick [2, 1, 0] rfl ?_
  exact h
set_option maxRecDepth 20000 in
theorem b_SX_typeOf_7 {l : Launch} {V : xV} {Q : Int32 → xIt → xJt → xPt → Prop} {I : xIt} {J : xJt} {P : xPt} (hL : xL P) {v0 : Int32} {v1 : Int32} {v2 : Int32} (h : ((5 ≤ v2 → Q (-1) I J P) ∧ (¬ 5 ≤ v2 → (vp_in v2 5 ∧ ((¬ (xs0 v2.toNatClampNeg) = v1 → G_SX_typeOf l V Q 7 [(0, xi v0), (1, xi v1), (2, xi (v2 + 1))] [] I J P) ∧ ((xs0 v2.toNatClampNeg) = v1 → Q v2 I J P)))))) : G_SX_typeOf l V Q 7 [(0, xi v0), (1, xi v1), (2, xi v2)] [] I J P := by
  refine xG_iload_n d_SX_typeOf_7 rfl rfl ?_
  refine xG_iconst (v := 5) d_SX_typeOf_8 rfl ?_
  refine xG_icmp_ge (tgt := 29) d_SX_typeOf_9 (by decide) (fun c => ?_) (fun c => ?_)
  · have h := h.1 c
    refine xG_iconst (v := (-1)) d_SX_typeOf_29 rfl ?_
    exact xG_ireturn d_SX_typeOf_30 rfl rfl ⟨rfl, hL, _, rfl, h⟩
  · have h := h.2 c
    refine xG_gets2 (q := ("DirectorySession", "TYPE_LETTERS", "[C")) (j := 0) (i := 0) d_SX_typeOf_12 rfl rfl ?_
    refine xG_iload_n d_SX_typeOf_15 rfl rfl ?_
    refine xG_tc d_SX_typeOf_16 (by decide) rfl h.1 ?_
    have h := h.2
    refine xG_topi (x' := xs0 v2.toNatClampNeg) rfl ?_
    refine xG_iload_n d_SX_typeOf_17 rfl rfl ?_
    refine xG_icmp_ne (tgt := 23) d_SX_typeOf_18 (by decide) (fun c => ?_) (fun c => ?_)
    · have h := h.1 c
      refine xG_iinc (v := v2 + 1) (lv' := [(2, xi (v2 + 1)), (0, xi v0), (1, xi v1)]) d_SX_typeOf_23 rfl rfl (Nat.le_of_ble_eq_true rfl) rfl ?_
      refine xG_goto (tgt := 7) d_SX_typeOf_26 (by decide) ?_
      refine xG_pick [1, 2, 0] rfl ?_
      exact h
    · have h := h.2 c
      refine xG_iload_n d_SX_typeOf_21 rfl rfl ?_
      exact xG_ireturn d_SX_typeOf_22 rfl rfl ⟨rfl, hL, _, rfl, h⟩
theorem e_SX_typeOf {l : Launch} {V : xV} {Q : Int32 → xIt → xJt → xPt → Prop} {I : xIt} {J : xJt} {P : xPt} {v0 : Int32} (h : G_SX_typeOf l V Q 0 [(0, xi v0)] [] I J P) : xMet l V y_SX_typeOf 2 0 0 [xi v0] xS0 I J P (xPi Q) := xMet_of (by decide) (Nat.le_of_ble_eq_true rfl) h

abbrev G_SX_plainOf (l : Launch) (V : xV) (Q : Int64 → xIt → xJt → xPt → Prop) (pc : Nat) (lv : List (Nat × xX)) (st : List xX) (I : xIt) (J : xJt) (P : xPt) : Prop := xG l V y_SX_plainOf (xR 3 0 0) (xFn V y_SX_plainOf (xR 3 0 0) (xPl Q)) pc lv st xS0 I J P (0, 0)
set_option maxRecDepth 20000 in
theorem b_SX_plainOf_0 {l : Launch} {V : xV} {Q : Int64 → xIt → xJt → xPt → Prop} {I : xIt} {J : xJt} {P : xPt} (hL : xL P) {v0 : Int32} {v1 : Int64} (h : (((lg_cmp v1 (-1)) = 0 → Q (-1) I J P) ∧ (¬ (lg_cmp v1 (-1)) = 0 → ((¬ (lg_cmp v1 0) = 0 → ((v0 = 0 → (∃ Q1 : Int64 → xIt → xJt → xPt → Prop, xMet l V y_SX_plainLetter 2 0 0 [xj v1] xS0 I J P (xPl Q1) ∧ ∀ (z1 : Int64) (I1 : xIt) (J1 : xJt) (P1 : xPt), Q1 z1 I1 J1 P1 → Q z1 I1 J1 P1)) ∧ (v0 = 1 → (∃ Q2 : Int64 → xIt → xJt → xPt → Prop, xMet l V y_SX_plainText 2 0 0 [xj v1] xS0 I J P (xPl Q2) ∧ ∀ (z2 : Int64) (I2 : xIt) (J2 : xJt) (P2 : xPt), Q2 z2 I2 J2 P2 → Q z2 I2 J2 P2)) ∧ (v0 = 2 → (∃ Q3 : Int64 → xIt → xJt → xPt → Prop, xMet l V y_SX_plainText 2 0 0 [xj v1] xS0 I J P (xPl Q3) ∧ ∀ (z3 : Int64) (I3 : xIt) (J3 : xJt) (P3 : xPt), Q3 z3 I3 J3 P3 → Q z3 I3 J3 P3)) ∧ (v0 = 3 → (∃ Q4 : Int32 → xIt → xJt → xPt → Prop, xMet l V y_SX_isNumber 2 0 0 [xj v1] xS0 I J P (xPi Q4) ∧ ∀ (z4 : Int32) (I4 : xIt) (J4 : xJt) (P4 : xPt), Q4 z4 I4 J4 P4 → ((z4 = 0 → Q (-1) I4 J4 P4) ∧ (¬ z4 = 0 → Q v1 I4 J4 P4)))) ∧ (v0 = 4 → Q v1 I J P) ∧ (¬ v0 = 0 → ¬ v0 = 1 → ¬ v0 = 2 → ¬ v0 = 3 → ¬ v0 = 4 → Q (-1) I J P))) ∧ ((lg_cmp v1 0) = 0 → Q (-1) I J P))))) : G_SX_plainOf l V Q 0 [(0, xi v0), (1, xj v1)] [] I J P := by
  refine xG_lload_n d_SX_plainOf_0 rfl rfl ?_
  refine xG_ldc2 (v := (-1)) d_SX_plainOf_1 w2_162 ?_
  refine xG_lcmp d_SX_plainOf_4 ?_
  refine xG_if_eq (tgt := 14) d_SX_plainOf_5 (by decide) (fun c => ?_) (fun c => ?_)
  · have h := h.1 c
    refine xG_ldc2 (v := (-1)) d_SX_plainOf_14 w2_162 ?_
    exact xG_lreturn d_SX_plainOf_17 rfl ⟨rfl, hL, _, rfl, h⟩
  · have h := h.2 c
    refine xG_lload_n d_SX_plainOf_8 rfl rfl ?_
    refine xG_lconst (v := 0) d_SX_plainOf_9 rfl ?_
    refine xG_lcmp d_SX_plainOf_10 ?_
    refine xG_if_ne (tgt := 18) d_SX_plainOf_11 (by decide) (fun c => ?_) (fun c => ?_)
    · have h := h.1 c
      refine xG_iload_n d_SX_plainOf_18 rfl rfl ?_
      by_cases c0 : v0 = 0
      · have h := h.1 c0
        refine xG_topi (x' := 0) c0 ?_
        refine xG_tableIn (off := 33) (tgt := 52) d_SX_plainOf_19 (by decide) (by decide) rfl (by decide) ?_
        refine xG_lload_n d_SX_plainOf_52 rfl rfl ?_
        obtain ⟨Q1, hM, h⟩ := h
        refine xG_calls (as := [xj v1]) (rest := []) d_SX_plainOf_53 ys_SX_plainLetter w2_163 rfl rfl hM ⟨by decide, by decide⟩ (Nat.le_of_ble_eq_true rfl) ⟨Nat.zero_le _, Nat.zero_le _⟩ (fun r S1 I1 J1 P1 hp => ?_)
        obtain ⟨rfl, hL1, z1, rfl, hq⟩ := hp
        have h := h z1 I1 J1 P1 hq
        exact xG_lreturn d_SX_plainOf_56 rfl ⟨rfl, hL1, _, rfl, h⟩
      by_cases c1 : v0 = 1
      · have h := h.2.1 c1
        refine xG_topi (x' := 1) c1 ?_
        refine xG_tableIn (off := 38) (tgt := 57) d_SX_plainOf_19 (by decide) (by decide) rfl (by decide) ?_
        refine xG_lload_n d_SX_plainOf_57 rfl rfl ?_
        obtain ⟨Q2, hM, h⟩ := h
        refine xG_calls (as := [xj v1]) (rest := []) d_SX_plainOf_58 ys_SX_plainText w2_171 rfl rfl hM ⟨by decide, by decide⟩ (Nat.le_of_ble_eq_true rfl) ⟨Nat.zero_le _, Nat.zero_le _⟩ (fun r S2 I2 J2 P2 hp => ?_)
        obtain ⟨rfl, hL2, z2, rfl, hq⟩ := hp
        have h := h z2 I2 J2 P2 hq
        exact xG_lreturn d_SX_plainOf_61 rfl ⟨rfl, hL2, _, rfl, h⟩
      by_cases c2 : v0 = 2
      · have h := h.2.2.1 c2
        refine xG_topi (x' := 2) c2 ?_
        refine xG_tableIn (off := 38) (tgt := 57) d_SX_plainOf_19 (by decide) (by decide) rfl (by decide) ?_
        refine xG_lload_n d_SX_plainOf_57 rfl rfl ?_
        obtain ⟨Q3, hM, h⟩ := h
        refine xG_calls (as := [xj v1]) (rest := []) d_SX_plainOf_58 ys_SX_plainText w2_171 rfl rfl hM ⟨by decide, by decide⟩ (Nat.le_of_ble_eq_true rfl) ⟨Nat.zero_le _, Nat.zero_le _⟩ (fun r S3 I3 J3 P3 hp => ?_)
        obtain ⟨rfl, hL3, z3, rfl, hq⟩ := hp
        have h := h z3 I3 J3 P3 hq
        exact xG_lreturn d_SX_plainOf_61 rfl ⟨rfl, hL3, _, rfl, h⟩
      by_cases c3 : v0 = 3
      · have h := h.2.2.2.1 c3
        refine xG_topi (x' := 3) c3 ?_
        refine xG_tableIn (off := 43) (tgt := 62) d_SX_plainOf_19 (by decide) (by decide) rfl (by decide) ?_
        refine xG_lload_n d_SX_plainOf_62 rfl rfl ?_
        obtain ⟨Q4, hM, h⟩ := h
        refine xG_calls (as := [xj v1]) (rest := []) d_SX_plainOf_63 ys_SX_isNumber w2_174 rfl rfl hM ⟨by decide, by decide⟩ (Nat.le_of_ble_eq_true rfl) ⟨Nat.zero_le _, Nat.zero_le _⟩ (fun r S4 I4 J4 P4 hp => ?_)
        obtain ⟨rfl, hL4, z4, rfl, hq⟩ := hp
        have h := h z4 I4 J4 P4 hq
        refine xG_if_eq (tgt := 73) d_SX_plainOf_66 (by decide) (fun c => ?_) (fun c => ?_)
        · have h := h.1 c
          refine xG_ldc2 (v := (-1)) d_SX_plainOf_73 w2_162 ?_
          exact xG_lreturn d_SX_plainOf_76 rfl ⟨rfl, hL4, _, rfl, h⟩
        · have h := h.2 c
          refine xG_lload_n d_SX_plainOf_69 rfl rfl ?_
          refine xG_goto (tgt := 76) d_SX_plainOf_70 (by decide) ?_
          exact xG_lreturn d_SX_plainOf_76 rfl ⟨rfl, hL4, _, rfl, h⟩
      by_cases c4 : v0 = 4
      · have h := h.2.2.2.2.1 c4
        refine xG_topi (x' := 4) c4 ?_
        refine xG_tableIn (off := 58) (tgt := 77) d_SX_plainOf_19 (by decide) (by decide) rfl (by decide) ?_
        refine xG_lload_n d_SX_plainOf_77 rfl rfl ?_
        exact xG_lreturn d_SX_plainOf_78 rfl ⟨rfl, hL, _, rfl, h⟩
      have h := h.2.2.2.2.2 c0 c1 c2 c3 c4
      refine xG_tableOut (tgt := 79) d_SX_plainOf_19 (by have n0 := lv_neT c0 (show (0 : Int32).toInt = 0 by decide); have n1 := lv_neT c1 (show (1 : Int32).toInt = 1 by decide); have n2 := lv_neT c2 (show (2 : Int32).toInt = 2 by decide); have n3 := lv_neT c3 (show (3 : Int32).toInt = 3 by decide); have n4 := lv_neT c4 (show (4 : Int32).toInt = 4 by decide); omega) (by decide) ?_
      refine xG_ldc2 (v := (-1)) d_SX_plainOf_79 w2_162 ?_
      exact xG_lreturn d_SX_plainOf_82 rfl ⟨rfl, hL, _, rfl, h⟩
    · have h := h.2 c
      refine xG_ldc2 (v := (-1)) d_SX_plainOf_14 w2_162 ?_
      exact xG_lreturn d_SX_plainOf_17 rfl ⟨rfl, hL, _, rfl, h⟩
theorem e_SX_plainOf {l : Launch} {V : xV} {Q : Int64 → xIt → xJt → xPt → Prop} {I : xIt} {J : xJt} {P : xPt} {v0 : Int32} {v1 : Int64} (h : G_SX_plainOf l V Q 0 [(0, xi v0), (1, xj v1)] [] I J P) : xMet l V y_SX_plainOf 3 0 0 [xi v0, xj v1] xS0 I J P (xPl Q) := xMet_of (by decide) (Nat.le_of_ble_eq_true rfl) h

abbrev G_SX_plainLetter (l : Launch) (V : xV) (Q : Int64 → xIt → xJt → xPt → Prop) (pc : Nat) (lv : List (Nat × xX)) (st : List xX) (I : xIt) (J : xJt) (P : xPt) : Prop := xG l V y_SX_plainLetter (xR 2 0 0) (xFn V y_SX_plainLetter (xR 2 0 0) (xPl Q)) pc lv st xS0 I J P (0, 0)
set_option maxRecDepth 20000 in
theorem b_SX_plainLetter_0 {l : Launch} {V : xV} {Q : Int64 → xIt → xJt → xPt → Prop} {I : xIt} {J : xJt} {P : xPt} (hL : xL P) {v0 : Int64} (h : (∃ Q1 : Int32 → xIt → xJt → xPt → Prop, xMet l V y_PK_byteAt 1 0 0 [xj v0, xi 0] xS0 I J P (xPi Q1) ∧ ∀ (z1 : Int32) (I1 : xIt) (J1 : xJt) (P1 : xPt), Q1 z1 I1 J1 P1 → (∃ Q2 : Int32 → xIt → xJt → xPt → Prop, xMet l V y_SX_smallLetter 1 0 0 [xi z1] xS0 I1 J1 P1 (xPi Q2) ∧ ∀ (z2 : Int32) (I2 : xIt) (J2 : xJt) (P2 : xPt), Q2 z2 I2 J2 P2 → (∃ Q3 : Int32 → xIt → xJt → xPt → Prop, xMet l V y_PK_sizeOf 1 0 0 [xj v0] xS0 I2 J2 P2 (xPi Q3) ∧ ∀ (z3 : Int32) (I3 : xIt) (J3 : xJt) (P3 : xPt), Q3 z3 I3 J3 P3 → ((¬ z3 = 1 → Q (-1) I3 J3 P3) ∧ (z3 = 1 → ((z2 < 97 → Q (-1) I3 J3 P3) ∧ (¬ z2 < 97 → ((z2 ≤ 122 → (∃ Q4 : Int64 → xIt → xJt → xPt → Prop, xMet l V y_PK_append 1 0 0 [xj 0, xi z2] xS0 I3 J3 P3 (xPl Q4) ∧ ∀ (z4 : Int64) (I4 : xIt) (J4 : xJt) (P4 : xPt), Q4 z4 I4 J4 P4 → Q z4 I4 J4 P4)) ∧ (¬ z2 ≤ 122 → Q (-1) I3 J3 P3)))))))))) : G_SX_plainLetter l V Q 0 [(0, xj v0)] [] I J P := by
  refine xG_lload_n d_SX_plainLetter_0 rfl rfl ?_
  refine xG_iconst (v := 0) d_SX_plainLetter_1 rfl ?_
  obtain ⟨Q1, hM, h⟩ := h
  refine xG_calls (as := [xj v0, xi 0]) (rest := []) d_SX_plainLetter_2 ys_PK_byteAt w2_166 rfl rfl hM ⟨by decide, by decide⟩ (Nat.le_of_ble_eq_true rfl) ⟨Nat.zero_le _, Nat.zero_le _⟩ (fun r S1 I1 J1 P1 hp => ?_)
  obtain ⟨rfl, hL1, z1, rfl, hq⟩ := hp
  have h := h z1 I1 J1 P1 hq
  obtain ⟨Q2, hM, h⟩ := h
  refine xG_calls (as := [xi z1]) (rest := []) d_SX_plainLetter_5 ys_SX_smallLetter w2_144 rfl rfl hM ⟨by decide, by decide⟩ (Nat.le_of_ble_eq_true rfl) ⟨Nat.zero_le _, Nat.zero_le _⟩ (fun r S2 I2 J2 P2 hp => ?_)
  obtain ⟨rfl, hL2, z2, rfl, hq⟩ := hp
  have h := h z2 I2 J2 P2 hq
  refine xG_istore_n (lv' := [(2, xi z2), (0, xj v0)]) d_SX_plainLetter_8 rfl (Nat.le_of_ble_eq_true rfl) rfl ?_
  refine xG_lload_n d_SX_plainLetter_9 rfl rfl ?_
  obtain ⟨Q3, hM, h⟩ := h
  refine xG_calls (as := [xj v0]) (rest := []) d_SX_plainLetter_10 ys_PK_sizeOf w2_169 rfl rfl hM ⟨by decide, by decide⟩ (Nat.le_of_ble_eq_true rfl) ⟨Nat.zero_le _, Nat.zero_le _⟩ (fun r S3 I3 J3 P3 hp => ?_)
  obtain ⟨rfl, hL3, z3, rfl, hq⟩ := hp
  have h := h z3 I3 J3 P3 hq
  refine xG_iconst (v := 1) d_SX_plainLetter_13 rfl ?_
  refine xG_icmp_ne (tgt := 29) d_SX_plainLetter_14 (by decide) (fun c => ?_) (fun c => ?_)
  · have h := h.1 c
    refine xG_ldc2 (v := (-1)) d_SX_plainLetter_29 w2_162 ?_
    exact xG_lreturn d_SX_plainLetter_32 rfl ⟨rfl, hL3, _, rfl, h⟩
  · have h := h.2 c
    refine xG_iload_n d_SX_plainLetter_17 rfl rfl ?_
    refine xG_bipush (v := 97) d_SX_plainLetter_18 rfl ?_
    refine xG_icmp_lt (tgt := 29) d_SX_plainLetter_20 (by decide) (fun c => ?_) (fun c => ?_)
    · have h := h.1 c
      refine xG_ldc2 (v := (-1)) d_SX_plainLetter_29 w2_162 ?_
      exact xG_lreturn d_SX_plainLetter_32 rfl ⟨rfl, hL3, _, rfl, h⟩
    · have h := h.2 c
      refine xG_iload_n d_SX_plainLetter_23 rfl rfl ?_
      refine xG_bipush (v := 122) d_SX_plainLetter_24 rfl ?_
      refine xG_icmp_le (tgt := 33) d_SX_plainLetter_26 (by decide) (fun c => ?_) (fun c => ?_)
      · have h := h.1 c
        refine xG_lconst (v := 0) d_SX_plainLetter_33 rfl ?_
        refine xG_iload_n d_SX_plainLetter_34 rfl rfl ?_
        obtain ⟨Q4, hM, h⟩ := h
        refine xG_calls (as := [xj 0, xi z2]) (rest := []) d_SX_plainLetter_35 ys_PK_append w2_170 rfl rfl hM ⟨by decide, by decide⟩ (Nat.le_of_ble_eq_true rfl) ⟨Nat.zero_le _, Nat.zero_le _⟩ (fun r S4 I4 J4 P4 hp => ?_)
        obtain ⟨rfl, hL4, z4, rfl, hq⟩ := hp
        have h := h z4 I4 J4 P4 hq
        exact xG_lreturn d_SX_plainLetter_38 rfl ⟨rfl, hL4, _, rfl, h⟩
      · have h := h.2 c
        refine xG_ldc2 (v := (-1)) d_SX_plainLetter_29 w2_162 ?_
        exact xG_lreturn d_SX_plainLetter_32 rfl ⟨rfl, hL3, _, rfl, h⟩
theorem e_SX_plainLetter {l : Launch} {V : xV} {Q : Int64 → xIt → xJt → xPt → Prop} {I : xIt} {J : xJt} {P : xPt} {v0 : Int64} (h : G_SX_plainLetter l V Q 0 [(0, xj v0)] [] I J P) : xMet l V y_SX_plainLetter 2 0 0 [xj v0] xS0 I J P (xPl Q) := xMet_of (by decide) (Nat.le_of_ble_eq_true rfl) h

abbrev G_SX_plainText (l : Launch) (V : xV) (Q : Int64 → xIt → xJt → xPt → Prop) (pc : Nat) (lv : List (Nat × xX)) (st : List xX) (I : xIt) (J : xJt) (P : xPt) : Prop := xG l V y_SX_plainText (xR 2 0 0) (xFn V y_SX_plainText (xR 2 0 0) (xPl Q)) pc lv st xS0 I J P (0, 0)
set_option maxRecDepth 20000 in
theorem b_SX_plainText_0 {l : Launch} {V : xV} {Q : Int64 → xIt → xJt → xPt → Prop} {I : xIt} {J : xJt} {P : xPt} (hL : xL P) {v0 : Int64} (h : G_SX_plainText l V Q 8 [(0, xj v0), (2, xj 0), (4, xi 0), (5, xi 0)] [] I J P) : G_SX_plainText l V Q 0 [(0, xj v0)] [] I J P := by
  refine xG_lconst (v := 0) d_SX_plainText_0 rfl ?_
  refine xG_lstore_n (lv' := [(2, xj 0), (0, xj v0)]) d_SX_plainText_1 rfl (Nat.le_of_ble_eq_true rfl) rfl ?_
  refine xG_iconst (v := 0) d_SX_plainText_2 rfl ?_
  refine xG_istore (lv' := [(4, xi 0), (2, xj 0), (0, xj v0)]) d_SX_plainText_3 (Nat.le_of_ble_eq_true rfl) rfl ?_
  refine xG_iconst (v := 0) d_SX_plainText_5 rfl ?_
  refine xG_istore (lv' := [(5, xi 0), (4, xi 0), (2, xj 0), (0, xj v0)]) d_SX_plainText_6 (Nat.le_of_ble_eq_true rfl) rfl ?_
  refine xG_pick [3, 2, 1, 0] rfl ?_
  exact h
set_option maxRecDepth 20000 in
theorem b_SX_plainText_8 {l : Launch} {V : xV} {Q : Int64 → xIt → xJt → xPt → Prop} {I : xIt} {J : xJt} {P : xPt} (hL : xL P) {v0 : Int64} {v2 : Int64} {v4 : Int32} {v5 : Int32} (h : (∃ Q1 : Int32 → xIt → xJt → xPt → Prop, xMet l V y_PK_sizeOf 1 0 0 [xj v0] xS0 I J P (xPi Q1) ∧ ∀ (z1 : Int32) (I1 : xIt) (J1 : xJt) (P1 : xPt), Q1 z1 I1 J1 P1 → ((z1 ≤ v5 → ((¬ (lg_cmp v2 0) = 0 → Q v2 I1 J1 P1) ∧ ((lg_cmp v2 0) = 0 → Q (-1) I1 J1 P1))) ∧ (¬ z1 ≤ v5 → (∃ Q2 : Int32 → xIt → xJt → xPt → Prop, xMet l V y_PK_byteAt 1 0 0 [xj v0, xi v5] xS0 I1 J1 P1 (xPi Q2) ∧ ∀ (z2 : Int32) (I2 : xIt) (J2 : xJt) (P2 : xPt), Q2 z2 I2 J2 P2 → ((z2 < 32 → Q (-1) I2 J2 P2) ∧ (¬ z2 < 32 → ((z2 ≤ 126 → ((¬ z2 = 32 → ((v4 = 0 → (∃ Q3 : Int32 → xIt → xJt → xPt → Prop, xMet l V y_SX_smallLetter 1 0 0 [xi z2] xS0 I2 J2 P2 (xPi Q3) ∧ ∀ (z3 : Int32) (I3 : xIt) (J3 : xJt) (P3 : xPt), Q3 z3 I3 J3 P3 → (∃ Q4 : Int64 → xIt → xJt → xPt → Prop, xMet l V y_PK_append 1 0 0 [xj v2, xi z3] xS0 I3 J3 P3 (xPl Q4) ∧ ∀ (z4 : Int64) (I4 : xIt) (J4 : xJt) (P4 : xPt), Q4 z4 I4 J4 P4 → G_SX_plainText l V Q 8 [(0, xj v0), (2, xj z4), (4, xi 0), (5, xi (v5 + 1))] [] I4 J4 P4))) ∧ (¬ v4 = 0 → (∃ Q5 : Int64 → xIt → xJt → xPt → Prop, xMet l V y_PK_append 1 0 0 [xj v2, xi 32] xS0 I2 J2 P2 (xPl Q5) ∧ ∀ (z5 : Int64) (I5 : xIt) (J5 : xJt) (P5 : xPt), Q5 z5 I5 J5 P5 → (∃ Q6 : Int32 → xIt → xJt → xPt → Prop, xMet l V y_SX_smallLetter 1 0 0 [xi z2] xS0 I5 J5 P5 (xPi Q6) ∧ ∀ (z6 : Int32) (I6 : xIt) (J6 : xJt) (P6 : xPt), Q6 z6 I6 J6 P6 → (∃ Q7 : Int64 → xIt → xJt → xPt → Prop, xMet l V y_PK_append 1 0 0 [xj z5, xi z6] xS0 I6 J6 P6 (xPl Q7) ∧ ∀ (z7 : Int64) (I7 : xIt) (J7 : xJt) (P7 : xPt), Q7 z7 I7 J7 P7 → G_SX_plainText l V Q 8 [(0, xj v0), (2, xj z7), (4, xi 0), (5, xi (v5 + 1))] [] I7 J7 P7)))))) ∧ (z2 = 32 → (((lg_cmp v2 0) = 0 → G_SX_plainText l V Q 8 [(0, xj v0), (2, xj v2), (4, xi 0), (5, xi (v5 + 1))] [] I2 J2 P2) ∧ (¬ (lg_cmp v2 0) = 0 → G_SX_plainText l V Q 8 [(0, xj v0), (2, xj v2), (4, xi 1), (5, xi (v5 + 1))] [] I2 J2 P2))))) ∧ (¬ z2 ≤ 126 → Q (-1) I2 J2 P2))))))))) : G_SX_plainText l V Q 8 [(0, xj v0), (2, xj v2), (4, xi v4), (5, xi v5)] [] I J P := by
  refine xG_iload d_SX_plainText_8 rfl ?_
  refine xG_lload_n d_SX_plainText_10 rfl rfl ?_
  obtain ⟨Q1, hM, h⟩ := h
  refine xG_calls (as := [xj v0]) (rest := [xi v5]) d_SX_plainText_11 ys_PK_sizeOf w2_169 rfl rfl hM ⟨by decide, by decide⟩ (Nat.le_of_ble_eq_true rfl) ⟨Nat.zero_le _, Nat.zero_le _⟩ (fun r S1 I1 J1 P1 hp => ?_)
  obtain ⟨rfl, hL1, z1, rfl, hq⟩ := hp
  have h := h z1 I1 J1 P1 hq
  refine xG_icmp_ge (tgt := 101) d_SX_plainText_14 (by decide) (fun c => ?_) (fun c => ?_)
  · have h := h.1 c
    refine xG_lload_n d_SX_plainText_101 rfl rfl ?_
    refine xG_lconst (v := 0) d_SX_plainText_102 rfl ?_
    refine xG_lcmp d_SX_plainText_103 ?_
    refine xG_if_ne (tgt := 113) d_SX_plainText_104 (by decide) (fun c => ?_) (fun c => ?_)
    · have h := h.1 c
      refine xG_lload_n d_SX_plainText_113 rfl rfl ?_
      exact xG_lreturn d_SX_plainText_114 rfl ⟨rfl, hL1, _, rfl, h⟩
    · have h := h.2 c
      refine xG_ldc2 (v := (-1)) d_SX_plainText_107 w2_162 ?_
      refine xG_goto (tgt := 114) d_SX_plainText_110 (by decide) ?_
      exact xG_lreturn d_SX_plainText_114 rfl ⟨rfl, hL1, _, rfl, h⟩
  · have h := h.2 c
    refine xG_lload_n d_SX_plainText_17 rfl rfl ?_
    refine xG_iload d_SX_plainText_18 rfl ?_
    obtain ⟨Q2, hM, h⟩ := h
    refine xG_calls (as := [xj v0, xi v5]) (rest := []) d_SX_plainText_20 ys_PK_byteAt w2_166 rfl rfl hM ⟨by decide, by decide⟩ (Nat.le_of_ble_eq_true rfl) ⟨Nat.zero_le _, Nat.zero_le _⟩ (fun r S2 I2 J2 P2 hp => ?_)
    obtain ⟨rfl, hL2, z2, rfl, hq⟩ := hp
    have h := h z2 I2 J2 P2 hq
    refine xG_istore (lv' := [(6, xi z2), (0, xj v0), (2, xj v2), (4, xi v4), (5, xi v5)]) d_SX_plainText_23 (Nat.le_of_ble_eq_true rfl) rfl ?_
    refine xG_iload d_SX_plainText_25 rfl ?_
    refine xG_bipush (v := 32) d_SX_plainText_27 rfl ?_
    refine xG_icmp_lt (tgt := 39) d_SX_plainText_29 (by decide) (fun c => ?_) (fun c => ?_)
    · have h := h.1 c
      refine xG_ldc2 (v := (-1)) d_SX_plainText_39 w2_162 ?_
      exact xG_lreturn d_SX_plainText_42 rfl ⟨rfl, hL2, _, rfl, h⟩
    · have h := h.2 c
      refine xG_iload d_SX_plainText_32 rfl ?_
      refine xG_bipush (v := 126) d_SX_plainText_34 rfl ?_
      refine xG_icmp_le (tgt := 43) d_SX_plainText_36 (by decide) (fun c => ?_) (fun c => ?_)
      · have h := h.1 c
        refine xG_iload d_SX_plainText_43 rfl ?_
        refine xG_bipush (v := 32) d_SX_plainText_45 rfl ?_
        refine xG_icmp_ne (tgt := 66) d_SX_plainText_47 (by decide) (fun c => ?_) (fun c => ?_)
        · have h := h.1 c
          refine xG_iload d_SX_plainText_66 rfl ?_
          refine xG_if_eq (tgt := 80) d_SX_plainText_68 (by decide) (fun c => ?_) (fun c => ?_)
          · have h := h.1 c
            refine xG_lload_n d_SX_plainText_80 rfl rfl ?_
            refine xG_lstore_n (lv' := [(2, xj v2), (6, xi z2), (0, xj v0), (4, xi v4), (5, xi v5)]) d_SX_plainText_81 rfl (Nat.le_of_ble_eq_true rfl) rfl ?_
            refine xG_lload_n d_SX_plainText_82 rfl rfl ?_
            refine xG_iload d_SX_plainText_83 rfl ?_
            obtain ⟨Q3, hM, h⟩ := h
            refine xG_calls (as := [xi z2]) (rest := [xj v2]) d_SX_plainText_85 ys_SX_smallLetter w2_144 rfl rfl hM ⟨by decide, by decide⟩ (Nat.le_of_ble_eq_true rfl) ⟨Nat.zero_le _, Nat.zero_le _⟩ (fun r S3 I3 J3 P3 hp => ?_)
            obtain ⟨rfl, hL3, z3, rfl, hq⟩ := hp
            have h := h z3 I3 J3 P3 hq
            obtain ⟨Q4, hM, h⟩ := h
            refine xG_calls (as := [xj v2, xi z3]) (rest := []) d_SX_plainText_88 ys_PK_append w2_170 rfl rfl hM ⟨by decide, by decide⟩ (Nat.le_of_ble_eq_true rfl) ⟨Nat.zero_le _, Nat.zero_le _⟩ (fun r S4 I4 J4 P4 hp => ?_)
            obtain ⟨rfl, hL4, z4, rfl, hq⟩ := hp
            have h := h z4 I4 J4 P4 hq
            refine xG_lstore_n (lv' := [(2, xj z4), (6, xi z2), (0, xj v0), (4, xi v4), (5, xi v5)]) d_SX_plainText_91 rfl (Nat.le_of_ble_eq_true rfl) rfl ?_
            refine xG_iconst (v := 0) d_SX_plainText_92 rfl ?_
            refine xG_istore (lv' := [(4, xi 0), (2, xj z4), (6, xi z2), (0, xj v0), (5, xi v5)]) d_SX_plainText_93 (Nat.le_of_ble_eq_true rfl) rfl ?_
            refine xG_iinc (v := v5 + 1) (lv' := [(5, xi (v5 + 1)), (4, xi 0), (2, xj z4), (6, xi z2), (0, xj v0)]) d_SX_plainText_95 rfl rfl (Nat.le_of_ble_eq_true rfl) rfl ?_
            refine xG_goto (tgt := 8) d_SX_plainText_98 (by decide) ?_
            refine xG_pick [4, 2, 1, 0] rfl ?_
            exact h
          · have h := h.2 c
            refine xG_lload_n d_SX_plainText_71 rfl rfl ?_
            refine xG_bipush (v := 32) d_SX_plainText_72 rfl ?_
            obtain ⟨Q5, hM, h⟩ := h
            refine xG_calls (as := [xj v2, xi 32]) (rest := []) d_SX_plainText_74 ys_PK_append w2_170 rfl rfl hM ⟨by decide, by decide⟩ (Nat.le_of_ble_eq_true rfl) ⟨Nat.zero_le _, Nat.zero_le _⟩ (fun r S5 I5 J5 P5 hp => ?_)
            obtain ⟨rfl, hL5, z5, rfl, hq⟩ := hp
            have h := h z5 I5 J5 P5 hq
            refine xG_goto (tgt := 81) d_SX_plainText_77 (by decide) ?_
            refine xG_lstore_n (lv' := [(2, xj z5), (6, xi z2), (0, xj v0), (4, xi v4), (5, xi v5)]) d_SX_plainText_81 rfl (Nat.le_of_ble_eq_true rfl) rfl ?_
            refine xG_lload_n d_SX_plainText_82 rfl rfl ?_
            refine xG_iload d_SX_plainText_83 rfl ?_
            obtain ⟨Q6, hM, h⟩ := h
            refine xG_calls (as := [xi z2]) (rest := [xj z5]) d_SX_plainText_85 ys_SX_smallLetter w2_144 rfl rfl hM ⟨by decide, by decide⟩ (Nat.le_of_ble_eq_true rfl) ⟨Nat.zero_le _, Nat.zero_le _⟩ (fun r S6 I6 J6 P6 hp => ?_)
            obtain ⟨rfl, hL6, z6, rfl, hq⟩ := hp
            have h := h z6 I6 J6 P6 hq
            obtain ⟨Q7, hM, h⟩ := h
            refine xG_calls (as := [xj z5, xi z6]) (rest := []) d_SX_plainText_88 ys_PK_append w2_170 rfl rfl hM ⟨by decide, by decide⟩ (Nat.le_of_ble_eq_true rfl) ⟨Nat.zero_le _, Nat.zero_le _⟩ (fun r S7 I7 J7 P7 hp => ?_)
            obtain ⟨rfl, hL7, z7, rfl, hq⟩ := hp
            have h := h z7 I7 J7 P7 hq
            refine xG_lstore_n (lv' := [(2, xj z7), (6, xi z2), (0, xj v0), (4, xi v4), (5, xi v5)]) d_SX_plainText_91 rfl (Nat.le_of_ble_eq_true rfl) rfl ?_
            refine xG_iconst (v := 0) d_SX_plainText_92 rfl ?_
            refine xG_istore (lv' := [(4, xi 0), (2, xj z7), (6, xi z2), (0, xj v0), (5, xi v5)]) d_SX_plainText_93 (Nat.le_of_ble_eq_true rfl) rfl ?_
            refine xG_iinc (v := v5 + 1) (lv' := [(5, xi (v5 + 1)), (4, xi 0), (2, xj z7), (6, xi z2), (0, xj v0)]) d_SX_plainText_95 rfl rfl (Nat.le_of_ble_eq_true rfl) rfl ?_
            refine xG_goto (tgt := 8) d_SX_plainText_98 (by decide) ?_
            refine xG_pick [4, 2, 1, 0] rfl ?_
            exact h
        · have h := h.2 c
          refine xG_lload_n d_SX_plainText_50 rfl rfl ?_
          refine xG_lconst (v := 0) d_SX_plainText_51 rfl ?_
          refine xG_lcmp d_SX_plainText_52 ?_
          refine xG_if_eq (tgt := 60) d_SX_plainText_53 (by decide) (fun c => ?_) (fun c => ?_)
          · have h := h.1 c
            refine xG_iconst (v := 0) d_SX_plainText_60 rfl ?_
            refine xG_istore (lv' := [(4, xi 0), (6, xi z2), (0, xj v0), (2, xj v2), (5, xi v5)]) d_SX_plainText_61 (Nat.le_of_ble_eq_true rfl) rfl ?_
            refine xG_goto (tgt := 95) d_SX_plainText_63 (by decide) ?_
            refine xG_iinc (v := v5 + 1) (lv' := [(5, xi (v5 + 1)), (4, xi 0), (6, xi z2), (0, xj v0), (2, xj v2)]) d_SX_plainText_95 rfl rfl (Nat.le_of_ble_eq_true rfl) rfl ?_
            refine xG_goto (tgt := 8) d_SX_plainText_98 (by decide) ?_
            refine xG_pick [3, 4, 1, 0] rfl ?_
            exact h
          · have h := h.2 c
            refine xG_iconst (v := 1) d_SX_plainText_56 rfl ?_
            refine xG_goto (tgt := 61) d_SX_plainText_57 (by decide) ?_
            refine xG_istore (lv' := [(4, xi 1), (6, xi z2), (0, xj v0), (2, xj v2), (5, xi v5)]) d_SX_plainText_61 (Nat.le_of_ble_eq_true rfl) rfl ?_
            refine xG_goto (tgt := 95) d_SX_plainText_63 (by decide) ?_
            refine xG_iinc (v := v5 + 1) (lv' := [(5, xi (v5 + 1)), (4, xi 1), (6, xi z2), (0, xj v0), (2, xj v2)]) d_SX_plainText_95 rfl rfl (Nat.le_of_ble_eq_true rfl) rfl ?_
            refine xG_goto (tgt := 8) d_SX_plainText_98 (by decide) ?_
            refine xG_pick [3, 4, 1, 0] rfl ?_
            exact h
      · have h := h.2 c
        refine xG_ldc2 (v := (-1)) d_SX_plainText_39 w2_162 ?_
        exact xG_lreturn d_SX_plainText_42 rfl ⟨rfl, hL2, _, rfl, h⟩
theorem e_SX_plainText {l : Launch} {V : xV} {Q : Int64 → xIt → xJt → xPt → Prop} {I : xIt} {J : xJt} {P : xPt} {v0 : Int64} (h : G_SX_plainText l V Q 0 [(0, xj v0)] [] I J P) : xMet l V y_SX_plainText 2 0 0 [xj v0] xS0 I J P (xPl Q) := xMet_of (by decide) (Nat.le_of_ble_eq_true rfl) h

abbrev G_SX_isNumber (l : Launch) (V : xV) (Q : Int32 → xIt → xJt → xPt → Prop) (pc : Nat) (lv : List (Nat × xX)) (st : List xX) (I : xIt) (J : xJt) (P : xPt) : Prop := xG l V y_SX_isNumber (xR 2 0 0) (xFn V y_SX_isNumber (xR 2 0 0) (xPi Q)) pc lv st xS0 I J P (0, 0)
set_option maxRecDepth 20000 in
theorem b_SX_isNumber_0 {l : Launch} {V : xV} {Q : Int32 → xIt → xJt → xPt → Prop} {I : xIt} {J : xJt} {P : xPt} (hL : xL P) {v0 : Int64} (h : (∃ Q1 : Int32 → xIt → xJt → xPt → Prop, xMet l V y_PK_sizeOf 1 0 0 [xj v0] xS0 I J P (xPi Q1) ∧ ∀ (z1 : Int32) (I1 : xIt) (J1 : xJt) (P1 : xPt), Q1 z1 I1 J1 P1 → (∃ Q2 : Int32 → xIt → xJt → xPt → Prop, xMet l V y_PK_byteAt 1 0 0 [xj v0, xi 0] xS0 I1 J1 P1 (xPi Q2) ∧ ∀ (z2 : Int32) (I2 : xIt) (J2 : xJt) (P2 : xPt), Q2 z2 I2 J2 P2 → ((¬ z2 = 45 → G_SX_isNumber l V Q 20 [(0, xj v0), (2, xi z1)] [xi 0] I2 J2 P2) ∧ (z2 = 45 → G_SX_isNumber l V Q 20 [(0, xj v0), (2, xi z1)] [xi 1] I2 J2 P2))))) : G_SX_isNumber l V Q 0 [(0, xj v0)] [] I J P := by
  refine xG_lload_n d_SX_isNumber_0 rfl rfl ?_
  obtain ⟨Q1, hM, h⟩ := h
  refine xG_calls (as := [xj v0]) (rest := []) d_SX_isNumber_1 ys_PK_sizeOf w2_169 rfl rfl hM ⟨by decide, by decide⟩ (Nat.le_of_ble_eq_true rfl) ⟨Nat.zero_le _, Nat.zero_le _⟩ (fun r S1 I1 J1 P1 hp => ?_)
  obtain ⟨rfl, hL1, z1, rfl, hq⟩ := hp
  have h := h z1 I1 J1 P1 hq
  refine xG_istore_n (lv' := [(2, xi z1), (0, xj v0)]) d_SX_isNumber_4 rfl (Nat.le_of_ble_eq_true rfl) rfl ?_
  refine xG_lload_n d_SX_isNumber_5 rfl rfl ?_
  refine xG_iconst (v := 0) d_SX_isNumber_6 rfl ?_
  obtain ⟨Q2, hM, h⟩ := h
  refine xG_calls (as := [xj v0, xi 0]) (rest := []) d_SX_isNumber_7 ys_PK_byteAt w2_166 rfl rfl hM ⟨by decide, by decide⟩ (Nat.le_of_ble_eq_true rfl) ⟨Nat.zero_le _, Nat.zero_le _⟩ (fun r S2 I2 J2 P2 hp => ?_)
  obtain ⟨rfl, hL2, z2, rfl, hq⟩ := hp
  have h := h z2 I2 J2 P2 hq
  refine xG_bipush (v := 45) d_SX_isNumber_10 rfl ?_
  refine xG_icmp_ne (tgt := 19) d_SX_isNumber_12 (by decide) (fun c => ?_) (fun c => ?_)
  · have h := h.1 c
    refine xG_iconst (v := 0) d_SX_isNumber_19 rfl ?_
    refine xG_pick [1, 0] rfl ?_
    exact h
  · have h := h.2 c
    refine xG_iconst (v := 1) d_SX_isNumber_15 rfl ?_
    refine xG_goto (tgt := 20) d_SX_isNumber_16 (by decide) ?_
    refine xG_pick [1, 0] rfl ?_
    exact h
set_option maxRecDepth 20000 in
theorem b_SX_isNumber_20 {l : Launch} {V : xV} {Q : Int32 → xIt → xJt → xPt → Prop} {I : xIt} {J : xJt} {P : xPt} (hL : xL P) {v0 : Int64} {v2 : Int32} {u0 : Int32} (h : (((v2 - u0) < 1 → Q 0 I J P) ∧ (¬ (v2 - u0) < 1 → (((v2 - u0) ≤ 4 → G_SX_isNumber l V Q 40 [(0, xj v0), (2, xi v2), (3, xi u0), (4, xi u0)] [] I J P) ∧ (¬ (v2 - u0) ≤ 4 → Q 0 I J P))))) : G_SX_isNumber l V Q 20 [(0, xj v0), (2, xi v2)] [xi u0] I J P := by
  refine xG_istore_n (lv' := [(3, xi u0), (0, xj v0), (2, xi v2)]) d_SX_isNumber_20 rfl (Nat.le_of_ble_eq_true rfl) rfl ?_
  refine xG_iload_n d_SX_isNumber_21 rfl rfl ?_
  refine xG_iload_n d_SX_isNumber_22 rfl rfl ?_
  refine xG_isub d_SX_isNumber_23 ?_
  refine xG_iconst (v := 1) d_SX_isNumber_24 rfl ?_
  refine xG_icmp_lt (tgt := 35) d_SX_isNumber_25 (by decide) (fun c => ?_) (fun c => ?_)
  · have h := h.1 c
    refine xG_iconst (v := 0) d_SX_isNumber_35 rfl ?_
    exact xG_ireturn d_SX_isNumber_36 rfl rfl ⟨rfl, hL, _, rfl, h⟩
  · have h := h.2 c
    refine xG_iload_n d_SX_isNumber_28 rfl rfl ?_
    refine xG_iload_n d_SX_isNumber_29 rfl rfl ?_
    refine xG_isub d_SX_isNumber_30 ?_
    refine xG_iconst (v := 4) d_SX_isNumber_31 rfl ?_
    refine xG_icmp_le (tgt := 37) d_SX_isNumber_32 (by decide) (fun c => ?_) (fun c => ?_)
    · have h := h.1 c
      refine xG_iload_n d_SX_isNumber_37 rfl rfl ?_
      refine xG_istore (lv' := [(4, xi u0), (3, xi u0), (0, xj v0), (2, xi v2)]) d_SX_isNumber_38 (Nat.le_of_ble_eq_true rfl) rfl ?_
      refine xG_pick [2, 3, 1, 0] rfl ?_
      exact h
    · have h := h.2 c
      refine xG_iconst (v := 0) d_SX_isNumber_35 rfl ?_
      exact xG_ireturn d_SX_isNumber_36 rfl rfl ⟨rfl, hL, _, rfl, h⟩
set_option maxRecDepth 20000 in
theorem b_SX_isNumber_40 {l : Launch} {V : xV} {Q : Int32 → xIt → xJt → xPt → Prop} {I : xIt} {J : xJt} {P : xPt} (hL : xL P) {v0 : Int64} {v2 : Int32} {v3 : Int32} {v4 : Int32} (h : ((v2 ≤ v4 → ((v2 = 1 → Q 1 I J P) ∧ (¬ v2 = 1 → (∃ Q1 : Int32 → xIt → xJt → xPt → Prop, xMet l V y_PK_byteAt 1 0 0 [xj v0, xi v3] xS0 I J P (xPi Q1) ∧ ∀ (z1 : Int32) (I1 : xIt) (J1 : xJt) (P1 : xPt), Q1 z1 I1 J1 P1 → ((z1 = 48 → Q 0 I1 J1 P1) ∧ (¬ z1 = 48 → Q 1 I1 J1 P1)))))) ∧ (¬ v2 ≤ v4 → (∃ Q2 : Int32 → xIt → xJt → xPt → Prop, xMet l V y_PK_byteAt 1 0 0 [xj v0, xi v4] xS0 I J P (xPi Q2) ∧ ∀ (z2 : Int32) (I2 : xIt) (J2 : xJt) (P2 : xPt), Q2 z2 I2 J2 P2 → ((z2 < 48 → Q 0 I2 J2 P2) ∧ (¬ z2 < 48 → ((z2 ≤ 57 → G_SX_isNumber l V Q 40 [(0, xj v0), (2, xi v2), (3, xi v3), (4, xi (v4 + 1))] [] I2 J2 P2) ∧ (¬ z2 ≤ 57 → Q 0 I2 J2 P2)))))))) : G_SX_isNumber l V Q 40 [(0, xj v0), (2, xi v2), (3, xi v3), (4, xi v4)] [] I J P := by
  refine xG_iload d_SX_isNumber_40 rfl ?_
  refine xG_iload_n d_SX_isNumber_42 rfl rfl ?_
  refine xG_icmp_ge (tgt := 76) d_SX_isNumber_43 (by decide) (fun c => ?_) (fun c => ?_)
  · have h := h.1 c
    refine xG_iload_n d_SX_isNumber_76 rfl rfl ?_
    refine xG_iconst (v := 1) d_SX_isNumber_77 rfl ?_
    refine xG_icmp_eq (tgt := 91) d_SX_isNumber_78 (by decide) (fun c => ?_) (fun c => ?_)
    · have h := h.1 c
      refine xG_iconst (v := 1) d_SX_isNumber_91 rfl ?_
      refine xG_goto (tgt := 96) d_SX_isNumber_92 (by decide) ?_
      exact xG_ireturn d_SX_isNumber_96 rfl rfl ⟨rfl, hL, _, rfl, h⟩
    · have h := h.2 c
      refine xG_lload_n d_SX_isNumber_81 rfl rfl ?_
      refine xG_iload_n d_SX_isNumber_82 rfl rfl ?_
      obtain ⟨Q1, hM, h⟩ := h
      refine xG_calls (as := [xj v0, xi v3]) (rest := []) d_SX_isNumber_83 ys_PK_byteAt w2_166 rfl rfl hM ⟨by decide, by decide⟩ (Nat.le_of_ble_eq_true rfl) ⟨Nat.zero_le _, Nat.zero_le _⟩ (fun r S1 I1 J1 P1 hp => ?_)
      obtain ⟨rfl, hL1, z1, rfl, hq⟩ := hp
      have h := h z1 I1 J1 P1 hq
      refine xG_bipush (v := 48) d_SX_isNumber_86 rfl ?_
      refine xG_icmp_eq (tgt := 95) d_SX_isNumber_88 (by decide) (fun c => ?_) (fun c => ?_)
      · have h := h.1 c
        refine xG_iconst (v := 0) d_SX_isNumber_95 rfl ?_
        exact xG_ireturn d_SX_isNumber_96 rfl rfl ⟨rfl, hL1, _, rfl, h⟩
      · have h := h.2 c
        refine xG_iconst (v := 1) d_SX_isNumber_91 rfl ?_
        refine xG_goto (tgt := 96) d_SX_isNumber_92 (by decide) ?_
        exact xG_ireturn d_SX_isNumber_96 rfl rfl ⟨rfl, hL1, _, rfl, h⟩
  · have h := h.2 c
    refine xG_lload_n d_SX_isNumber_46 rfl rfl ?_
    refine xG_iload d_SX_isNumber_47 rfl ?_
    obtain ⟨Q2, hM, h⟩ := h
    refine xG_calls (as := [xj v0, xi v4]) (rest := []) d_SX_isNumber_49 ys_PK_byteAt w2_166 rfl rfl hM ⟨by decide, by decide⟩ (Nat.le_of_ble_eq_true rfl) ⟨Nat.zero_le _, Nat.zero_le _⟩ (fun r S2 I2 J2 P2 hp => ?_)
    obtain ⟨rfl, hL2, z2, rfl, hq⟩ := hp
    have h := h z2 I2 J2 P2 hq
    refine xG_istore (lv' := [(5, xi z2), (0, xj v0), (2, xi v2), (3, xi v3), (4, xi v4)]) d_SX_isNumber_52 (Nat.le_of_ble_eq_true rfl) rfl ?_
    refine xG_iload d_SX_isNumber_54 rfl ?_
    refine xG_bipush (v := 48) d_SX_isNumber_56 rfl ?_
    refine xG_icmp_lt (tgt := 68) d_SX_isNumber_58 (by decide) (fun c => ?_) (fun c => ?_)
    · have h := h.1 c
      refine xG_iconst (v := 0) d_SX_isNumber_68 rfl ?_
      exact xG_ireturn d_SX_isNumber_69 rfl rfl ⟨rfl, hL2, _, rfl, h⟩
    · have h := h.2 c
      refine xG_iload d_SX_isNumber_61 rfl ?_
      refine xG_bipush (v := 57) d_SX_isNumber_63 rfl ?_
      refine xG_icmp_le (tgt := 70) d_SX_isNumber_65 (by decide) (fun c => ?_) (fun c => ?_)
      · have h := h.1 c
        refine xG_iinc (v := v4 + 1) (lv' := [(4, xi (v4 + 1)), (5, xi z2), (0, xj v0), (2, xi v2), (3, xi v3)]) d_SX_isNumber_70 rfl rfl (Nat.le_of_ble_eq_true rfl) rfl ?_
        refine xG_goto (tgt := 40) d_SX_isNumber_73 (by decide) ?_
        refine xG_pick [2, 3, 4, 0] rfl ?_
        exact h
      · have h := h.2 c
        refine xG_iconst (v := 0) d_SX_isNumber_68 rfl ?_
        exact xG_ireturn d_SX_isNumber_69 rfl rfl ⟨rfl, hL2, _, rfl, h⟩
theorem e_SX_isNumber {l : Launch} {V : xV} {Q : Int32 → xIt → xJt → xPt → Prop} {I : xIt} {J : xJt} {P : xPt} {v0 : Int64} (h : G_SX_isNumber l V Q 0 [(0, xj v0)] [] I J P) : xMet l V y_SX_isNumber 2 0 0 [xj v0] xS0 I J P (xPi Q) := xMet_of (by decide) (Nat.le_of_ble_eq_true rfl) h

/-! rows against rows -/
section XVR3
variable {l : Launch} {V : xV} {I : xIt} {J : xJt} {P : xPt} {a b : Nat} {R S : List (Int64 × Int64)}
set_option maxRecDepth 20000 in
theorem c_VR_hasAll (hL : xL P) (ha : xS0[a]? = some (6, 0)) (hb : xS0[b]? = some (6, 0)) (hR : xRw I J a R) (hS : xRw I J b S) : xMet l V y_VR_hasAll 2 0 0 [xq (some a), xq (some b)] xS0 I J P (xPi (fun r I' J' P' => I = I' ∧ J = J' ∧ P = P' ∧ r = if S.all (fun y => R.any (fun x => x.2 == y.2)) = true then 1 else 0)) := by
  have hcb := vr_cap hb
  have hlen := hS.2.1
  have loop : ∀ (k j : Nat), j + k = S.length → (S.all (fun y => R.any (fun x => x.2 == y.2)) = (S.drop j).all (fun y => R.any (fun x => x.2 == y.2))) → G_VR_hasAll l V (fun r I' J' P' => I = I' ∧ J = J' ∧ P = P' ∧ r = if S.all (fun y => R.any (fun x => x.2 == y.2)) = true then 1 else 0) 2 [(0, xq (some a)), (1, xq (some b)), (2, xi (nI j))] [] I J P := by
    intro k
    induction k with
    | zero =>
      intro j hj hx
      refine b_VR_hasAll_2 hL ha ⟨b, rfl, hb, ?_⟩
      rw [hS.1]
      refine pk_le S.length j (fun _ => ⟨rfl, rfl, rfl, ?_⟩) (fun z => by omega)
      rw [hx, List.drop_eq_nil_of_le (by omega)]
      rfl
    | succ k ih =>
      intro j hj hx
      have hjl : j < S.length := by omega
      have hg := hS.2.2 j S[j] (List.getElem?_eq_getElem hjl)
      rw [List.drop_eq_getElem_cons hjl, List.all_cons] at hx
      refine b_VR_hasAll_2 hL ha ⟨b, rfl, hb, ?_⟩
      rw [hS.1]
      refine pk_le S.length j (fun z => by omega) (fun _ => ⟨pk_in j _ (by omega), ?_⟩)
      rw [pk_cl j, hg.2, nI_1]
      refine ⟨_, c_VR_has hL ha hR, ?_⟩
      rintro w I1 _ _ ⟨rfl, rfl, rfl, rfl⟩
      by_cases hv : R.any (fun x => x.2 == S[j].2) = true
      · rw [if_pos hv]
        exact ⟨fun _ => ih (j + 1) (by omega) (by rw [hx, hv]; rfl), fun z => absurd z (by decide)⟩
      · rw [if_neg hv]
        have hv' : R.any (fun x => x.2 == S[j].2) = false := Bool.eq_false_iff.mpr hv
        exact ⟨fun z => absurd rfl z, fun _ => ⟨rfl, rfl, rfl, by rw [hx, hv']; rfl⟩⟩
  exact e_VR_hasAll (b_VR_hasAll_0 hL ha (loop S.length 0 (by omega) (by simp)))
set_option maxRecDepth 20000 in
theorem c_VR_hasAny (hL : xL P) (ha : xS0[a]? = some (6, 0)) (hb : xS0[b]? = some (6, 0)) (hR : xRw I J a R) (hS : xRw I J b S) : xMet l V y_VR_hasAny 2 0 0 [xq (some a), xq (some b)] xS0 I J P (xPi (fun r I' J' P' => I = I' ∧ J = J' ∧ P = P' ∧ r = if S.any (fun y => R.any (fun x => x.2 == y.2)) = true then 1 else 0)) := by
  have hcb := vr_cap hb
  have hlen := hS.2.1
  have loop : ∀ (k j : Nat), j + k = S.length → (S.any (fun y => R.any (fun x => x.2 == y.2)) = (S.drop j).any (fun y => R.any (fun x => x.2 == y.2))) → G_VR_hasAny l V (fun r I' J' P' => I = I' ∧ J = J' ∧ P = P' ∧ r = if S.any (fun y => R.any (fun x => x.2 == y.2)) = true then 1 else 0) 2 [(0, xq (some a)), (1, xq (some b)), (2, xi (nI j))] [] I J P := by
    intro k
    induction k with
    | zero =>
      intro j hj hx
      refine b_VR_hasAny_2 hL ha ⟨b, rfl, hb, ?_⟩
      rw [hS.1]
      refine pk_le S.length j (fun _ => ⟨rfl, rfl, rfl, ?_⟩) (fun z => by omega)
      rw [hx, List.drop_eq_nil_of_le (by omega)]
      rfl
    | succ k ih =>
      intro j hj hx
      have hjl : j < S.length := by omega
      have hg := hS.2.2 j S[j] (List.getElem?_eq_getElem hjl)
      rw [List.drop_eq_getElem_cons hjl, List.any_cons] at hx
      refine b_VR_hasAny_2 hL ha ⟨b, rfl, hb, ?_⟩
      rw [hS.1]
      refine pk_le S.length j (fun z => by omega) (fun _ => ⟨pk_in j _ (by omega), ?_⟩)
      rw [pk_cl j, hg.2, nI_1]
      refine ⟨_, c_VR_has hL ha hR, ?_⟩
      rintro w I1 _ _ ⟨rfl, rfl, rfl, rfl⟩
      by_cases hv : R.any (fun x => x.2 == S[j].2) = true
      · rw [if_pos hv]
        exact ⟨fun z => absurd z (by decide), fun _ => ⟨rfl, rfl, rfl, by rw [hx, hv]; rfl⟩⟩
      · rw [if_neg hv]
        have hv' : R.any (fun x => x.2 == S[j].2) = false := Bool.eq_false_iff.mpr hv
        exact ⟨fun _ => ih (j + 1) (by omega) (by rw [hx, hv']; rfl), fun z => absurd rfl z⟩
  exact e_VR_hasAny (b_VR_hasAny_0 hL ha (loop S.length 0 (by omega) (by simp)))
theorem xRw.far {I' : xIt} {J' : xJt} (hb : xRw I J b S) (hab : a ≠ b) (ha : xS0[a]? = some (6, 0)) (hb6 : xS0[b]? = some (6, 0)) (h : xSr a I I' J J') : xRw I' J' b S := by
  have n1 := vr_ne ha hb6
  have n2 := vr_ne hb6 ha
  refine ⟨(h.1 b 2 (fun z => hab z.1.symm)).trans hb.1, hb.2.1, fun i x hi => ⟨(h.2 _ i (by omega) (by omega)).trans (hb.2.2 i x hi).1, (h.2 _ i (by omega) (by omega)).trans (hb.2.2 i x hi).2⟩⟩
set_option maxRecDepth 20000 in
theorem c_VR_removeAll (hL : xL P) (ha : xS0[a]? = some (6, 0)) (hb : xS0[b]? = some (6, 0)) (hab : a ≠ b) (hR : xRw I J a R) (hS : xRw I J b S) : xMet l V y_VR_removeAll 2 0 0 [xq (some a), xq (some b)] xS0 I J P (xPv (fun I' J' P' => P = P' ∧ xSr a I I' J J' ∧ xRw I' J' a (S.foldl (fun r y => r.filter (fun x => !(x.2 == y.2))) R))) := by
  have hcb := vr_cap hb
  have hlen := hS.2.1
  have loop : ∀ (k j : Nat) (R1 : List (Int64 × Int64)) (I1 : xIt) (J1 : xJt), j + k = S.length → xSr a I I1 J J1 → xRw I1 J1 a R1 → (S.foldl (fun r y => r.filter (fun x => !(x.2 == y.2))) R = (S.drop j).foldl (fun r y => r.filter (fun x => !(x.2 == y.2))) R1) → G_VR_removeAll l V (fun I' J' P' => P = P' ∧ xSr a I I' J J' ∧ xRw I' J' a (S.foldl (fun r y => r.filter (fun x => !(x.2 == y.2))) R)) 2 [(0, xq (some a)), (1, xq (some b)), (2, xi (nI j))] [] I1 J1 P := by
    intro k
    induction k with
    | zero =>
      intro j R1 I1 J1 hj hs hr hx
      have hS1 := hS.far hab ha hb hs
      refine b_VR_removeAll_2 hL ha ⟨b, rfl, hb, ?_⟩
      refine pk_le S.length j (fun _ => ⟨rfl, hs, ?_⟩) (fun z => by omega) hS1.1
      rw [hx, List.drop_eq_nil_of_le (by omega)]
      exact hr
    | succ k ih =>
      intro j R1 I1 J1 hj hs hr hx
      have hS1 := hS.far hab ha hb hs
      have hjl : j < S.length := by omega
      have hg := hS1.2.2 j S[j] (List.getElem?_eq_getElem hjl)
      rw [List.drop_eq_getElem_cons hjl, List.foldl_cons] at hx
      refine b_VR_removeAll_2 hL ha ⟨b, rfl, hb, ?_⟩
      refine pk_le S.length j (fun z => by omega) (fun _ => ⟨pk_in j _ (by omega), ?_⟩) hS1.1
      rw [pk_cl j, hg.2, nI_1]
      refine ⟨_, c_VR_remove hL ha hr, ?_⟩
      rintro I2 J2 _ ⟨rfl, hs2, hr2⟩
      exact ih (j + 1) _ I2 J2 (by omega) (hs.trans hs2) hr2 hx
  exact e_VR_removeAll (b_VR_removeAll_0 hL ha (loop S.length 0 R I J (by omega) xSr.rfl hR (by simp)))
set_option maxRecDepth 20000 in
theorem c_VR_addAll (hL : xL P) (ha : xS0[a]? = some (6, 0)) (hb : xS0[b]? = some (6, 0)) (hab : a ≠ b) (hR : xRw I J a R) (hS : xRw I J b S) : xMet l V y_VR_addAll 2 0 0 [xq (some a), xq (some b)] xS0 I J P (xPv (fun I' J' P' => P = P' ∧ xSr a I I' J J' ∧ xRw I' J' a (S.foldl (fun r y => if r.length < xLn (a + 1) then r ++ [y] else r) R))) := by
  have hcb := vr_cap hb
  have hlen := hS.2.1
  have loop : ∀ (k j : Nat) (R1 : List (Int64 × Int64)) (I1 : xIt) (J1 : xJt), j + k = S.length → xSr a I I1 J J1 → xRw I1 J1 a R1 → (S.foldl (fun r y => if r.length < xLn (a + 1) then r ++ [y] else r) R = (S.drop j).foldl (fun r y => if r.length < xLn (a + 1) then r ++ [y] else r) R1) → G_VR_addAll l V (fun I' J' P' => P = P' ∧ xSr a I I' J J' ∧ xRw I' J' a (S.foldl (fun r y => if r.length < xLn (a + 1) then r ++ [y] else r) R)) 2 [(0, xq (some a)), (1, xq (some b)), (2, xi (nI j))] [] I1 J1 P := by
    intro k
    induction k with
    | zero =>
      intro j R1 I1 J1 hj hs hr hx
      have hS1 := hS.far hab ha hb hs
      refine b_VR_addAll_2 hL ha ⟨b, rfl, hb, ?_⟩
      refine pk_le S.length j (fun _ => ⟨rfl, hs, ?_⟩) (fun z => by omega) hS1.1
      rw [hx, List.drop_eq_nil_of_le (by omega)]
      exact hr
    | succ k ih =>
      intro j R1 I1 J1 hj hs hr hx
      have hS1 := hS.far hab ha hb hs
      have hjl : j < S.length := by omega
      have hg := hS1.2.2 j S[j] (List.getElem?_eq_getElem hjl)
      rw [List.drop_eq_getElem_cons hjl, List.foldl_cons] at hx
      refine b_VR_addAll_2 hL ha ⟨b, rfl, hb, ?_⟩
      refine pk_le S.length j (fun z => by omega) (fun _ => ⟨pk_in j _ (by omega), pk_in j _ (by omega), ?_⟩) hS1.1
      rw [pk_cl j, hg.1, hg.2, nI_1]
      refine ⟨_, c_VR_add hL ha hr, ?_⟩
      rintro I2 J2 _ ⟨rfl, hs2, hr2⟩
      exact ih (j + 1) _ I2 J2 (by omega) (hs.trans hs2) hr2 hx
  exact e_VR_addAll (b_VR_addAll_0 hL ha (loop S.length 0 R I J (by omega) xSr.rfl hR (by simp)))
end XVR3

/-! rows: copy, remove -/
theorem vr_ne {a b : Nat} (ha : xS0[a]? = some (6, 0)) (hb : xS0[b]? = some (6, 0)) : b ≠ a + 1 ∧ b ≠ a + 2 := by
  refine ⟨fun z => ?_, fun z => ?_⟩
  · rw [z, so_6_0 ha] at hb
    cases hb
  · rw [z, so_6_1 ha] at hb
    cases hb
section XVR2
variable {l : Launch} {V : xV} {I : xIt} {J : xJt} {P : xPt} {a b : Nat} {R : List (Int64 × Int64)}
set_option maxRecDepth 20000 in
theorem c_VR_copy (hL : xL P) (ha : xS0[a]? = some (6, 0)) (hb : xS0[b]? = some (6, 0)) (hab : a ≠ b) (hR : xRw I J b R) : xMet l V y_VR_copy 2 0 0 [xq (some a), xq (some b)] xS0 I J P (xPv (fun I' J' P' => P = P' ∧ xSr a I I' J J' ∧ xRw I' J' a (R.take (xLn (a + 1))))) := by
  have hc := vr_cap ha
  have hcb := vr_cap hb
  have n1 := vr_ne ha hb
  have n2 := vr_ne hb ha
  have hlen := hR.2.1
  have hn : (if Int32.ofNat (xLn (a + 1)) < I b 2 then Int32.ofNat (xLn (a + 1)) else I b 2) = nI (R.take (xLn (a + 1))).length := by
    rw [hR.1, show Int32.ofNat (xLn (a + 1)) = nI (xLn (a + 1)) from rfl, List.length_take]
    by_cases h : xLn (a + 1) < R.length
    · rw [if_pos (nI_lt h (by omega)), Nat.min_eq_left (by omega)]
    · rw [if_neg (nI_nlt (by omega) (by omega)), Nat.min_eq_right (by omega)]
  have loop : ∀ (k j : Nat) (J1 : xJt), j + k = (R.take (xLn (a + 1))).length → (∀ c i, c ≠ a + 1 → c ≠ a + 2 → J1 c i = J c i) → (∀ (i : Nat) (x : Int64 × Int64), i < j → R[i]? = some x → J1 (a + 1) i = x.1 ∧ J1 (a + 2) i = x.2) → G_VR_copy l V (fun I' J' P' => P = P' ∧ xSr a I I' J J' ∧ xRw I' J' a (R.take (xLn (a + 1)))) 18 [(0, xq (some a)), (1, xq (some b)), (2, xi (nI j))] [] (xu I a 2 (nI (R.take (xLn (a + 1))).length)) J1 P := by
    intro k
    induction k with
    | zero =>
      intro j J1 hj hs hd
      refine b_VR_copy_18 hL ha ?_
      rw [xu_at]
      refine pk_le (R.take (xLn (a + 1))).length j (fun _ => ⟨rfl, ⟨fun c i hc => xu_other hc, hs⟩, xu_at, by rw [List.length_take]; omega, fun i x hi => ?_⟩) (fun z => by omega) rfl rfl (by rw [List.length_take]; omega) (by rw [List.length_take] at hj; omega)
      have hil := (List.getElem?_eq_some_iff.mp hi).1
      rw [List.getElem?_take] at hi
      by_cases hic : i < xLn (a + 1)
      · rw [if_pos hic] at hi
        exact hd i x (by omega) hi
      · rw [if_neg hic] at hi
        cases hi
    | succ k ih =>
      intro j J1 hj hs hd
      have hjl : j < R.length := by rw [List.length_take] at hj; omega
      have hjc : j < xLn (a + 1) := by rw [List.length_take] at hj; omega
      have hg := hR.2.2 j R[j] (List.getElem?_eq_getElem hjl)
      refine b_VR_copy_18 hL ha ?_
      rw [xu_at]
      refine pk_le (R.take (xLn (a + 1))).length j (fun z => by omega) (fun _ => ⟨b, rfl, hb, pk_in j _ (by omega), pk_in j _ (by omega), pk_in j _ (by omega), pk_in j _ (by omega), ?_⟩) rfl rfl (by rw [List.length_take]; omega) (by rw [List.length_take] at hj; omega)
      rw [pk_cl j, nI_1]
      refine ih (j + 1) _ (by omega) (fun c i h1 h2 => ?_) (fun i x hi hx => ?_)
      · rw [xu_other (by omega), xu_other (by omega)]
        exact hs c i h1 h2
      · by_cases hij : i = j
        · subst hij
          have hx' : R[i] = x := Option.some.inj ((List.getElem?_eq_getElem hjl).symm.trans hx)
          refine ⟨?_, ?_⟩
          · rw [xu_other (by omega), xu_at, hs _ _ (by omega) (by omega), hg.1, hx']
          · rw [xu_at, xu_other (by omega), hs _ _ (by omega) (by omega), hg.2, hx']
        · have h7 := hd i x (by omega) hx
          refine ⟨?_, ?_⟩
          · rw [xu_other (by omega), xu_other (by omega)]; exact h7.1
          · rw [xu_other (by omega), xu_other (by omega)]; exact h7.2
  refine e_VR_copy (b_VR_copy_0 hL ha ⟨b, rfl, hb, ?_⟩)
  rw [hn]
  exact loop (R.take (xLn (a + 1))).length 0 J (by omega) (fun _ _ _ _ => rfl) (fun i x hi => by omega)
set_option maxRecDepth 20000 in
theorem c_VR_remove {v : Int64} (hL : xL P) (ha : xS0[a]? = some (6, 0)) (hR : xRw I J a R) : xMet l V y_VR_remove 1 0 0 [xq (some a), xj v] xS0 I J P (xPv (fun I' J' P' => P = P' ∧ xSr a I I' J J' ∧ xRw I' J' a (R.filter (fun x => !(x.2 == v))))) := by
  have hc := vr_cap ha
  have hlen := hR.2.1
  have loop : ∀ (k j : Nat) (F : List (Int64 × Int64)) (J1 : xJt), j + k = R.length → F.length ≤ j → (R.filter (fun x => !(x.2 == v)) = F ++ (R.drop j).filter (fun x => !(x.2 == v))) → (∀ c i, c ≠ a + 1 → c ≠ a + 2 → J1 c i = J c i) → (∀ (i : Nat) (x : Int64 × Int64), F[i]? = some x → J1 (a + 1) i = x.1 ∧ J1 (a + 2) i = x.2) → (∀ (i : Nat) (x : Int64 × Int64), j ≤ i → R[i]? = some x → J1 (a + 1) i = x.1 ∧ J1 (a + 2) i = x.2) → G_VR_remove l V (fun I' J' P' => P = P' ∧ xSr a I I' J J' ∧ xRw I' J' a (R.filter (fun x => !(x.2 == v)))) 5 [(0, xq (some a)), (1, xj v), (3, xi (nI F.length)), (4, xi (nI j))] [] I J1 P := by
    intro k
    induction k with
    | zero =>
      intro j F J1 hj hF hx hs hd hu
      rw [List.drop_eq_nil_of_le (show R.length ≤ j by omega), List.filter_nil, List.append_nil] at hx
      refine b_VR_remove_5 hL ha ?_
      rw [hR.1]
      refine pk_le R.length j (fun _ => ⟨rfl, ⟨fun c i hc => xu_other hc, hs⟩, ?_⟩) (fun z => by omega)
      rw [hx]
      exact ⟨xu_at, by omega, hd⟩
    | succ k ih =>
      intro j F J1 hj hF hx hs hd hu
      have hjl : j < R.length := by omega
      have hg := hu j R[j] (Nat.le_refl _) (List.getElem?_eq_getElem hjl)
      rw [List.drop_eq_getElem_cons hjl] at hx
      refine b_VR_remove_5 hL ha ?_
      rw [hR.1]
      refine pk_le R.length j (fun z => by omega) (fun _ => ⟨pk_in j _ (by omega), ?_⟩)
      rw [pk_cl j, pk_cl F.length, hg.2, nI_1, nI_1, lg_cmp_eq]
      by_cases hv : R[j].2 = v
      · refine ⟨fun _ => ih (j + 1) F J1 (by omega) (by omega) (by rw [hx, List.filter_cons_of_neg (by simp [hv])]) hs hd (fun i x hi => hu i x (by omega)), fun z => absurd hv z⟩
      · refine ⟨fun z => absurd z hv, fun _ => ⟨pk_in j _ (by omega), pk_in F.length _ (by omega), pk_in j _ (by omega), pk_in F.length _ (by omega), ?_⟩⟩
        rw [show (xu J1 (a + 1) F.length (J1 (a + 1) j)) (a + 2) j = R[j].2 from (xu_other (by omega)).trans hg.2, hg.1]
        have hh := ih (j + 1) (F ++ [R[j]]) (xu (xu J1 (a + 1) F.length R[j].1) (a + 2) F.length R[j].2) (by omega) (by simp; omega) (by rw [hx, List.filter_cons_of_pos (by simp [hv])]; simp) (fun c i h1 h2 => by rw [xu_other (by omega), xu_other (by omega)]; exact hs c i h1 h2) (fun i x hi => ?_) (fun i x hi hxx => ?_)
        · rw [show (F ++ [R[j]]).length = F.length + 1 from by simp] at hh
          exact hh
        · by_cases hil : i < F.length
          · rw [List.getElem?_append_left hil] at hi
            have h7 := hd i x hi
            refine ⟨?_, ?_⟩
            · rw [xu_other (by omega), xu_other (by omega)]; exact h7.1
            · rw [xu_other (by omega), xu_other (by omega)]; exact h7.2
          · rw [List.getElem?_append_right (by omega)] at hi
            have h8 : i = F.length := by
              have := (List.getElem?_eq_some_iff.mp hi).1
              simp at this
              omega
            subst h8
            simp at hi
            subst hi
            refine ⟨?_, xu_at⟩
            rw [xu_other (by omega), xu_at]
        · have h7 := hu i x (by omega) hxx
          refine ⟨?_, ?_⟩
          · rw [xu_other (by omega), xu_other (by omega)]; exact h7.1
          · rw [xu_other (by omega), xu_other (by omega)]; exact h7.2
  exact e_VR_remove (b_VR_remove_0 hL ha (loop R.length 0 [] J (by omega) (by simp) (by simp) (fun _ _ _ _ => rfl) (fun i x hi => by simp at hi) (fun i x _ hx => hR.2.2 i x hx)))
end XVR2

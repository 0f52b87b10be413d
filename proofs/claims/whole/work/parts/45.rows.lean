/-! rows of values -/
theorem vr0 : ∀ a, a < 273 → xS0[a]? = some (6, 0) → xLn (a + 1) = xLn (a + 2) ∧ xLn (a + 1) ≤ 11 ∧ 3 ≤ xLn (a + 1) := by decide +kernel
theorem vr_cap {a : Nat} (h : xS0[a]? = some (6, 0)) : xLn (a + 2) = xLn (a + 1) ∧ xLn (a + 1) ≤ 11 ∧ 3 ≤ xLn (a + 1) := ⟨(vr0 a (x_lt0 h) h).1.symm, (vr0 a (x_lt0 h) h).2⟩
/-- the row a holds the values R: as given, and plain -/
def xRw (I : xIt) (J : xJt) (a : Nat) (R : List (Int64 × Int64)) : Prop := I a 2 = nI R.length ∧ R.length ≤ xLn (a + 1) ∧ ∀ (i : Nat) (x : Int64 × Int64), R[i]? = some x → J (a + 1) i = x.1 ∧ J (a + 2) i = x.2
/-- nothing but the row a changed -/
def xSr (a : Nat) (I I' : xIt) (J J' : xJt) : Prop := (∀ b k, ¬ (b = a ∧ k = 2) → I' b k = I b k) ∧ ∀ b k, b ≠ a + 1 → b ≠ a + 2 → J' b k = J b k
theorem xSr.rfl {a : Nat} {I : xIt} {J : xJt} : xSr a I I J J := ⟨fun _ _ _ => Eq.refl _, fun _ _ _ _ => Eq.refl _⟩
theorem xSr.trans {a : Nat} {I I1 I2 : xIt} {J J1 J2 : xJt} (h : xSr a I I1 J J1) (h2 : xSr a I1 I2 J1 J2) : xSr a I I2 J J2 := ⟨fun b k hb => (h2.1 b k hb).trans (h.1 b k hb), fun b k h3 h4 => (h2.2 b k h3 h4).trans (h.2 b k h3 h4)⟩
section XVR
variable {l : Launch} {V : xV} {I : xIt} {J : xJt} {P : xPt} {a : Nat} {R : List (Int64 × Int64)}
set_option maxRecDepth 20000 in
theorem c_VR_has {v : Int64} (hL : xL P) (ha : xS0[a]? = some (6, 0)) (hR : xRw I J a R) : xMet l V y_VR_has 1 0 0 [xq (some a), xj v] xS0 I J P (xPi (fun r I' J' P' => I = I' ∧ J = J' ∧ P = P' ∧ r = if R.any (fun x => x.2 == v) = true then 1 else 0)) := by
  have hc := vr_cap ha
  have hlen := hR.2.1
  have loop : ∀ (k j : Nat), j + k = R.length → (R.any (fun x => x.2 == v) = (R.drop j).any (fun x => x.2 == v)) → G_VR_has l V (fun r I' J' P' => I = I' ∧ J = J' ∧ P = P' ∧ r = if R.any (fun x => x.2 == v) = true then 1 else 0) 2 [(0, xq (some a)), (1, xj v), (3, xi (nI j))] [] I J P := by
    intro k
    induction k with
    | zero =>
      intro j hj hx
      refine b_VR_has_2 hL ha ?_
      rw [hR.1]
      refine pk_le R.length j (fun _ => ⟨rfl, rfl, rfl, ?_⟩) (fun z => by omega)
      rw [hx, List.drop_eq_nil_of_le (by omega)]
      rfl
    | succ k ih =>
      intro j hj hx
      have hjl : j < R.length := by omega
      have hg := hR.2.2 j R[j] (List.getElem?_eq_getElem hjl)
      rw [List.drop_eq_getElem_cons hjl, List.any_cons] at hx
      refine b_VR_has_2 hL ha ?_
      rw [hR.1]
      refine pk_le R.length j (fun z => by omega) (fun _ => ⟨pk_in j (xLn (a + 2)) (by omega), ?_⟩)
      rw [pk_cl j, hg.2, nI_1, lg_cmp_eq]
      by_cases hv : R[j].2 = v
      · exact ⟨fun z => absurd hv z, fun _ => ⟨rfl, rfl, rfl, by rw [hx]; simp [hv]⟩⟩
      · exact ⟨fun _ => ih (j + 1) (by omega) (by rw [hx]; simp [hv]), fun z => absurd z hv⟩
  exact e_VR_has (b_VR_has_0 hL ha (loop R.length 0 (by omega) (by simp)))
set_option maxRecDepth 20000 in
theorem c_VR_clear (hL : xL P) (ha : xS0[a]? = some (6, 0)) : xMet l V y_VR_clear 1 0 0 [xq (some a)] xS0 I J P (xPv (fun I' J' P' => P = P' ∧ xSr a I I' J J' ∧ xRw I' J' a [])) := by
  refine e_VR_clear (b_VR_clear_0 hL ha ⟨rfl, ⟨fun b k hb => xu_other hb, fun _ _ _ _ => rfl⟩, xu_at, Nat.zero_le _, fun i x hi => by simp at hi⟩)
set_option maxRecDepth 20000 in
theorem c_VR_add {g p : Int64} (hL : xL P) (ha : xS0[a]? = some (6, 0)) (hR : xRw I J a R) : xMet l V y_VR_add 1 0 0 [xq (some a), xj g, xj p] xS0 I J P (xPv (fun I' J' P' => P = P' ∧ xSr a I I' J J' ∧ xRw I' J' a (if R.length < xLn (a + 1) then R ++ [(g, p)] else R))) := by
  have hc := vr_cap ha
  have hlen := hR.2.1
  refine e_VR_add (b_VR_add_0 hL ha ?_)
  rw [hR.1, nI_1, pk_cl R.length]
  refine pk_le (xLn (a + 1)) R.length (fun z => ⟨rfl, xSr.rfl, ?_⟩) (fun z => ⟨pk_in R.length _ (by omega), pk_in R.length _ (by omega), rfl, ⟨fun b k hb => xu_other hb, fun b k h1 h2 => ?_⟩, ?_⟩)
  · rw [if_neg (by omega)]
    exact hR
  · rw [xu_other (by omega), xu_other (by omega)]
  · rw [if_pos (by omega)]
    refine ⟨by rw [xu_at]; simp, by simp; omega, fun i x hi => ?_⟩
    by_cases hil : i < R.length
    · rw [List.getElem?_append_left hil] at hi
      have h7 := hR.2.2 i x hi
      refine ⟨?_, ?_⟩
      · rw [xu_other (by omega), xu_other (by omega)]; exact h7.1
      · rw [xu_other (by omega), xu_other (by omega)]; exact h7.2
    · rw [List.getElem?_append_right (by omega)] at hi
      have h8 : i = R.length := by
        have := (List.getElem?_eq_some_iff.mp hi).1
        simp at this
        omega
      subst h8
      simp at hi
      subst hi
      refine ⟨?_, xu_at⟩
      rw [xu_other (by omega), xu_at]
end XVR

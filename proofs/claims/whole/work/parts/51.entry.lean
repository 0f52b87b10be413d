/-! entries -/
theorem en0 : ∀ x, x < 273 → xS0[x]? = some (5, 0) → ∀ t, t < 5 → xFz (x + 1) t = true ∧ xP0 (x + 1) t = some (x + 2 + 3 * t) ∧ xS0[x + 2 + 3 * t]? = some (6, 0) := by decide +kernel
theorem en_row {P : xPt} {x t : Nat} (hL : xL P) (hx : xS0[x]? = some (5, 0)) (ht : t < 5) : P (x + 1) t = some (x + 2 + 3 * t) ∧ xS0[x + 2 + 3 * t]? = some (6, 0) := by
  have h := en0 x (x_lt0 hx) hx t ht
  exact ⟨(hL (x + 1) t h.1).trans h.2.1, h.2.2⟩
theorem en1 : ∀ x, x < 273 → xS0[x]? = some (5, 0) → xFz x 1 = false := by decide +kernel
/-- an entry's parent may change: no final reference does -/
theorem xL_up {P : xPt} {x : Nat} {r : Option Nat} (hL : xL P) (hx : xS0[x]? = some (5, 0)) : xL (xu P x 1 r) := by
  intro a k h
  by_cases hc : a = x ∧ k = 1
  · obtain ⟨rfl, rfl⟩ := hc
    rw [en1 a (x_lt0 hx) hx] at h
    cases h
  · rw [xu_other hc]
    exact hL a k h
/-- the entry x: its rows by type, its name part, its parent -/
def xEn (I : xIt) (J : xJt) (P : xPt) (x : Nat) (A : Nat → List (Int64 × Int64)) (nt : Nat) (nv : Int64) (ab : Option Nat) : Prop := (∀ t, t < 5 → xRw I J (x + 2 + 3 * t) (A t)) ∧ I x 2 = nI nt ∧ nt < 5 ∧ J x 3 = nv ∧ P x 1 = ab
section XEN
variable {l : Launch} {V : xV} {I : xIt} {J : xJt} {P : xPt} {x : Nat} {A : Nat → List (Int64 × Int64)} {nt : Nat} {nv : Int64} {ab : Option Nat}
set_option maxRecDepth 20000 in
theorem c_EN_isNamed {t : Nat} {v : Int64} (hL : xL P) (hx : xS0[x]? = some (5, 0)) (hE : xEn I J P x A nt nv ab) (ht : t < 256) : xMet l V y_EN_isNamed 1 0 0 [xq (some x), xi (nI t), xj v] xS0 I J P (xPi (fun r I' J' P' => I = I' ∧ J = J' ∧ P = P' ∧ r = if nt = t ∧ nv = v then 1 else 0)) := by
  refine e_EN_isNamed (b_EN_isNamed_0 hL hx ?_)
  have h5 := hE.2.2.1
  rw [hE.2.1, hE.2.2.2.1, lg_cmp_eq]
  refine (pk_eq nt t (fun z => ?_) (fun z => ⟨rfl, rfl, rfl, by rw [if_neg (fun w => z w.1)]⟩)).symm
  by_cases hv : nv = v
  · exact ⟨fun w => absurd hv w, fun _ => ⟨rfl, rfl, rfl, by rw [if_pos ⟨z, hv⟩]⟩⟩
  · exact ⟨fun _ => ⟨rfl, rfl, rfl, by rw [if_neg (fun w => hv w.2)]⟩, fun w => absurd w hv⟩
set_option maxRecDepth 20000 in
theorem c_EN_hasItsNamePart (hL : xL P) (hx : xS0[x]? = some (5, 0)) (hE : xEn I J P x A nt nv ab) : xMet l V y_EN_hasItsNamePart 2 0 0 [xq (some x)] xS0 I J P (xPi (fun r I' J' P' => I = I' ∧ J = J' ∧ P = P' ∧ r = if (A nt).any (fun y => y.2 == nv) = true then 1 else 0)) := by
  have h5 := hE.2.2.1
  have hr := en_row hL hx h5
  refine e_EN_hasItsNamePart (b_EN_hasItsNamePart_0 hL hx ?_)
  rw [hE.2.1, hE.2.2.2.1, pk_cl nt]
  refine ⟨pk_in nt 5 h5, _, hr.1, hr.2, _, c_VR_has hL hr.2 (hE.1 nt h5), ?_⟩
  rintro w I1 _ _ ⟨rfl, rfl, rfl, rfl⟩
  refine ⟨?_, rfl, rfl, rfl, rfl⟩
  by_cases hc : (A nt).any (fun y => y.2 == nv) = true
  · rw [if_pos hc]; exact Or.inr rfl
  · rw [if_neg hc]; exact Or.inl rfl
set_option maxRecDepth 20000 in
theorem c_EN_takeNamePart {a : Nat} (hL : xL P) (hx : xS0[x]? = some (5, 0)) (ha : xS0[a]? = some (3, 0)) : xMet l V y_EN_takeNamePart 1 0 0 [xq (some x), xq (some a)] xS0 I J P (xPv (fun I' J' P' => P = P' ∧ I' = xu I x 2 (I (a + 1) 0) ∧ J' = xu J x 3 (J (a + 3) 0))) :=
  e_EN_takeNamePart (b_EN_takeNamePart_0 hL hx ⟨a, rfl, ha, rfl, rfl, rfl⟩)
end XEN

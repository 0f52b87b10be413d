/-! entries: clear, copy -/
/-- nothing but the entry x with its rows changed -/
def xSe (x : Nat) (I I' : xIt) (J J' : xJt) : Prop := (∀ b k, b < x ∨ x + 17 ≤ b → I' b k = I b k) ∧ ∀ b k, b < x ∨ x + 17 ≤ b → J' b k = J b k
theorem xSe.rfl {x : Nat} {I : xIt} {J : xJt} : xSe x I I J J := ⟨fun _ _ _ => Eq.refl _, fun _ _ _ => Eq.refl _⟩
theorem xSe.row {x t : Nat} {I I1 I2 : xIt} {J J1 J2 : xJt} (h : xSe x I I1 J J1) (ht : t < 5) (h2 : xSr (x + 2 + 3 * t) I1 I2 J1 J2) : xSe x I I2 J J2 := ⟨fun b k hb => (h2.1 b k (by omega)).trans (h.1 b k hb), fun b k hb => (h2.2 b k (by omega) (by omega)).trans (h.2 b k hb)⟩
section XEN2
variable {l : Launch} {V : xV} {I : xIt} {J : xJt} {P : xPt} {x y : Nat} {A : Nat → List (Int64 × Int64)} {nt : Nat} {nv : Int64} {ab : Option Nat}
set_option maxRecDepth 20000 in
theorem c_EN_clear (hL : xL P) (hx : xS0[x]? = some (5, 0)) (hE : xEn I J P x A nt nv ab) : xMet l V y_EN_clear 2 0 0 [xq (some x)] xS0 I J P (xPv (fun I' J' P' => P' = xu P x 1 none ∧ xSe x I I' J J' ∧ xEn I' J' P' x (fun _ => []) nt nv none)) := by
  have loop : ∀ (k t : Nat) (I1 : xIt) (J1 : xJt), t + k = 5 → xSe x I I1 J J1 → I1 x 2 = I x 2 → J1 x 3 = J x 3 → (∀ i, i < t → xRw I1 J1 (x + 2 + 3 * i) []) → G_EN_clear l V (fun I' J' P' => P' = xu P x 1 none ∧ xSe x I I' J J' ∧ xEn I' J' P' x (fun _ => []) nt nv none) 2 [(0, xq (some x)), (1, xi (nI t))] [] I1 J1 P := by
    intro k
    induction k with
    | zero =>
      intro t I1 J1 ht hs h2 h3 hd
      refine b_EN_clear_2 hL hx (pk_le 5 t (fun _ => ⟨xL_up hL hx, rfl, hs, fun i hi => hd i (by omega), h2.trans hE.2.1, hE.2.2.1, h3.trans hE.2.2.2.1, xu_at⟩) (fun z => by omega))
    | succ k ih =>
      intro t I1 J1 ht hs h2 h3 hd
      have hr := en_row hL hx (show t < 5 by omega)
      refine b_EN_clear_2 hL hx (pk_le 5 t (fun z => by omega) (fun _ => ⟨pk_in t 5 (by omega), x + 2 + 3 * t, ?_⟩))
      rw [pk_cl t, nI_1]
      refine ⟨hr.1, hr.2, _, c_VR_clear hL hr.2, ?_⟩
      rintro I3 J3 _ ⟨rfl, hs3, hr3⟩
      refine ih (t + 1) I3 J3 (by omega) (hs.row (by omega) hs3) ((hs3.1 x 2 (by omega)).trans h2) ((hs3.2 x 3 (by omega) (by omega)).trans h3) (fun i hi => ?_)
      by_cases hit : i = t
      · subst hit; exact hr3
      · exact (hd i (by omega)).far (by omega) hr.2 (en_row hL hx (show i < 5 by omega)).2 hs3
  exact e_EN_clear (b_EN_clear_0 hL hx (loop 5 0 I J rfl xSe.rfl rfl rfl (fun i hi => by omega)))
set_option maxRecDepth 20000 in
theorem c_EN_copy (hL : xL P) (hx : xS0[x]? = some (5, 0)) (hy : xS0[y]? = some (5, 0)) (hxy : y + 17 ≤ x ∨ x + 17 ≤ y) (hE : xEn I J P y A nt nv ab) : xMet l V y_EN_copy 3 0 0 [xq (some x), xq (some y)] xS0 I J P (xPv (fun I' J' P' => P' = xu P x 1 ab ∧ xSe x I I' J J' ∧ xEn I' J' P' x (fun t => (A t).take (xLn (x + 2 + 3 * t + 1))) nt nv ab)) := by
  have loop : ∀ (k t : Nat) (I1 : xIt) (J1 : xJt), t + k = 5 → xSe x I I1 J J1 → (∀ i, i < t → xRw I1 J1 (x + 2 + 3 * i) ((A i).take (xLn (x + 2 + 3 * i + 1)))) → G_EN_copy l V (fun I' J' P' => P' = xu P x 1 ab ∧ xSe x I I' J J' ∧ xEn I' J' P' x (fun t => (A t).take (xLn (x + 2 + 3 * t + 1))) nt nv ab) 2 [(0, xq (some x)), (1, xq (some y)), (2, xi (nI t))] [] I1 J1 P := by
    intro k
    induction k with
    | zero =>
      intro t I1 J1 ht hs hd
      refine b_EN_copy_2 hL hx (pk_le 5 t (fun _ => ⟨y, rfl, hy, xL_up hL hx, by rw [hE.2.2.2.2], ⟨fun b k hb => (xu_other (by omega)).trans (hs.1 b k hb), fun b k hb => (xu_other (by omega)).trans (hs.2 b k hb)⟩, fun i hi => ?_, ?_, hE.2.2.1, ?_, ?_⟩) (fun z => by omega))
      · have h := hd i (by omega)
        refine ⟨(xu_other (by omega)).trans h.1, h.2.1, fun j z hj => ⟨(xu_other (by omega)).trans (h.2.2 j z hj).1, (xu_other (by omega)).trans (h.2.2 j z hj).2⟩⟩
      · rw [xu_at, hs.1 y 2 (by omega), hE.2.1]
      · rw [xu_at, hs.2 y 3 (by omega), hE.2.2.2.1]
      · rw [xu_at, hE.2.2.2.2]
    | succ k ih =>
      intro t I1 J1 ht hs hd
      have ht5 : t < 5 := by omega
      have hr := en_row hL hx ht5
      have hry := en_row hL hy ht5
      have hRy : xRw I1 J1 (y + 2 + 3 * t) (A t) := by
        have h := hE.1 t ht5
        exact ⟨(hs.1 _ 2 (by omega)).trans h.1, h.2.1, fun j z hj => ⟨(hs.2 _ j (by omega)).trans (h.2.2 j z hj).1, (hs.2 _ j (by omega)).trans (h.2.2 j z hj).2⟩⟩
      refine b_EN_copy_2 hL hx (pk_le 5 t (fun z => by omega) (fun _ => ⟨pk_in t 5 ht5, y, rfl, hy, pk_in t 5 ht5, x + 2 + 3 * t, ?_⟩))
      rw [pk_cl t, nI_1, hry.1]
      refine ⟨hr.1, hr.2, _, c_VR_copy hL hr.2 hry.2 (by omega) hRy, ?_⟩
      rintro I5 J5 _ ⟨rfl, hs5, hr5⟩
      refine ih (t + 1) I5 J5 (by omega) (hs.row ht5 hs5) (fun i hi => ?_)
      by_cases hit : i = t
      · subst hit; exact hr5
      · exact (hd i (by omega)).far (by omega) hr.2 (en_row hL hx (show i < 5 by omega)).2 hs5
  exact e_EN_copy (b_EN_copy_0 hL hx (loop 5 0 I J rfl xSe.rfl (fun i hi => by omega)))
end XEN2

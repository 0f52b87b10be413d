/-! the class's readFilter -/
abbrev kF : List Nat := [1, 9]
abbrev aF : List Nat := [3, 4, 6, 7, 8, 9]
theorem xFl.sm {m : Nat → Nat} {I I' : xIt} {D : Nat → Nat → Bool} {T0 : List (Nat × Nat)} {N : List (Nat × Nat × Nat × Nat)} (h : xFl m I T0 N) (hs : xsm D I I') (h6 : D 6 6 = false) (h19 : D 1 9 = false) (h3 : ∀ j, D 3 j = false) (h4 : ∀ j, D 4 j = false) (h7 : ∀ j, D 7 j = false) (h8 : ∀ j, D 8 j = false) (h9 : ∀ j, D 9 j = false) : xFl m I' T0 N :=
  ⟨(hs 6 6 h6).trans h.1, h.2.1.sm hs h19 h3 h4, fun i x hi => ⟨(hs 7 i (h7 i)).trans (h.2.2 i x hi).1, (hs 8 i (h8 i)).trans (h.2.2 i x hi).2.1, (hs 9 i (h9 i)).trans (h.2.2 i x hi).2.2⟩⟩
theorem mkFl {m : Nat → Nat} {I I' : xIt} {T0 : List (Nat × Nat)} {N : List (Nat × Nat × Nat × Nat)} {x : Nat × Nat × Nat × Nat} (h6 : I' 6 6 = nI (N.length + 1)) (hT : xTx I' (T0 ++ N.flatMap (tx m) ++ tx m x)) (hN : ∀ (i : Nat) (y : Nat × Nat × Nat × Nat), N[i]? = some y → I' 7 i = nI y.1 ∧ I' 8 i = nI y.2.1 - 1 ∧ I' 9 i = nI (T0 ++ (N.take i).flatMap (tx m)).length) (hx : I' 7 N.length = nI x.1 ∧ I' 8 N.length = nI x.2.1 - 1 ∧ I' 9 N.length = nI (T0 ++ N.flatMap (tx m)).length) : xFl m I' T0 (N ++ [x]) := by
  refine ⟨by rw [h6]; simp, by simpa using hT, fun i y hi => ?_⟩
  by_cases hil : i < N.length
  · rw [List.getElem?_append_left hil] at hi
    rw [List.take_append_of_le_length (by omega)]
    exact hN i y hi
  · rw [List.getElem?_append_right (by omega)] at hi
    have h8 : i = N.length := by
      have := (List.getElem?_eq_some_iff.mp hi).1
      simp at this
      omega
    subst h8
    simp at hi
    subst hi
    rw [show (N ++ [x]).take N.length = N from by simp]
    exact hx
theorem tk_tl {m : Nat → Nat} {p e f u : Nat} (h : tk m (m p) 255 p e = some (f, u)) : tl m p e = some (m p, f, u) := by
  unfold tk at h
  cases ht : tl m p e with
  | none => rw [ht] at h; cases h
  | some x =>
    obtain ⟨t, f', u'⟩ := x
    rw [ht] at h
    have b := tl_bd ht
    by_cases hc : t = m p ∧ u' - f' ≤ 255
    · simp only [if_pos hc] at h
      cases h
      rw [b.1]
    · simp only [if_neg hc] at h
      cases h
theorem tk_tl_none {m : Nat → Nat} {p e : Nat} (hb : ∀ j, j < e → m j < 256) (h : tk m (m p) 255 p e = none) : tl m p e = none := by
  cases ht : tl m p e with
  | none => rfl
  | some x =>
    obtain ⟨t, f, u⟩ := x
    have h2 := tl_255 hb ht
    have b := tl_bd ht
    simp only [tk, ht, if_pos (show t = m p ∧ u - f ≤ 255 from ⟨b.1, h2⟩)] at h
    cases h
theorem sq_pos {m : Nat → Nat} {k p e top par n : Nat} {R : List (Nat × Nat × Nat × Nat) × Nat} (h : sq m k p e top par n = some R) (hpe : ¬ p = e) : 1 ≤ R.2 := by
  cases k with
  | zero => cases h
  | succ k =>
    rw [sq, if_neg hpe] at h
    obtain ⟨x, hx, h⟩ := Option.bind_eq_some_iff.mp h
    by_cases h6 : top = 6 ∨ n = 12
    · rw [if_pos h6] at h; cases h
    · rw [if_neg h6] at h
      by_cases hy : 160 ≤ x.1 ∧ x.1 ≤ 162
      · rw [if_pos hy] at h
        obtain ⟨L, hL, h⟩ := Option.bind_eq_some_iff.mp h
        by_cases hz : x.1 = 162 ∧ L.2 ≠ 1
        · rw [if_pos hz] at h; cases h
        · rw [if_neg hz] at h
          obtain ⟨R', hR, rfl⟩ := Option.map_eq_some_iff.mp h
          show 1 ≤ R'.2 + 1
          omega
      · rw [if_neg hy] at h
        by_cases hb : lfb m x.1 x.2.1 x.2.2 = true
        · rw [if_pos hb] at h
          obtain ⟨R', hR, rfl⟩ := Option.map_eq_some_iff.mp h
          show 1 ≤ R'.2 + 1
          omega
        · rw [if_neg hb] at h; cases h
theorem sq_end {m : Nat → Nat} {k p top par n : Nat} : sq m (k + 1) p p top par n = some ([], 0) := by rw [sq, if_pos rfl]
/-- NOT holds just one filter -/
theorem sq_one {m : Nat → Nat} {f u top par n : Nat} (hfu : f ≤ u) (hu : u ≤ 160) (hn : n ≤ 12) : ((sq m 200 f u top par n).bind fun L => if L.2 ≠ 1 then none else some L.1) = (iw m f u top par n).bind fun A => if A.2 = u then some A.1 else none := by
  by_cases hfe : f = u
  · subst hfe
    rw [show (200 : Nat) = 199 + 1 from rfl, sq_end]
    have ht : tl m f f = none := by simp only [tl, if_neg (show ¬ f + 2 ≤ f by omega)]
    simp [iw, ht]
  · rw [sq_step (by omega) hu]
    cases hA : iw m f u top par n with
    | none => rfl
    | some A =>
      have b := iw_bd hn hA
      simp only [Option.bind_some]
      by_cases hAu : A.2 = u
      · rw [hAu, show (200 : Nat) = 199 + 1 from rfl, sq_end, if_pos rfl]
        simp
      · rw [if_neg hAu]
        cases hR : sq m 200 A.2 u top par (n + A.1.length) with
        | none => rfl
        | some R =>
          have := sq_pos hR hAu
          simp only [Option.map_some, Option.bind_some]
          rw [if_pos (by omega)]
def QF (m : Nat → Nat) (p e top par : Nat) (T0 : List (Nat × Nat)) (N : List (Nat × Nat × Nat × Nat)) (I : xIt) (J : xJt) (P : xPt) : Int32 → xIt → xJt → xPt → Prop := fun r I' J' P' => J = J' ∧ P = P' ∧ xsm (dO 1 kF aF) I I' ∧ xOp (iw m p e top par N.length) r (fun A => I' 1 1 = nI A.2 ∧ xFl m I' T0 (N ++ A.1) ∧ 2 * (T0 ++ (N ++ A.1).flatMap (tx m)).length + 7 ≤ A.2)
theorem iw_6 {m : Nat → Nat} {p e par n : Nat} : iw m p e 6 par n = none := by
  unfold iw
  cases tl m p e with
  | none => rfl
  | some x => simp

/-! filters one by one -/
theorem sq_fuel (m : Nat → Nat) : ∀ (k k' p e top par n : Nat), e - p < k → e - p < k' → sq m k p e top par n = sq m k' p e top par n := by
  intro k
  induction k with
  | zero => intro k' p e top par n h; omega
  | succ k ih =>
    intro k' p e top par n h h'
    cases k' with
    | zero => omega
    | succ k' =>
      rw [sq, sq]
      by_cases hpe : p = e
      · rw [if_pos hpe, if_pos hpe]
      · rw [if_neg hpe, if_neg hpe]
        cases ht : tl m p e with
        | none => rfl
        | some x =>
          obtain ⟨t, f, u⟩ := x
          have b := tl_bd ht
          have h1 : ∀ n', sq m k u e top par n' = sq m k' u e top par n' := fun n' => ih k' u e top par n' (by omega) (by omega)
          have h2 : sq m k f u (top + 1) (n + 1) (n + 1) = sq m k' f u (top + 1) (n + 1) (n + 1) := ih k' f u _ _ _ (by omega) (by omega)
          simp only [Option.bind_some, h1, h2]
/-- one filter at p: it and what lies in it, and where it ends -/
def iw (m : Nat → Nat) (p e top par n : Nat) : Option (List (Nat × Nat × Nat × Nat) × Nat) := (tl m p e).bind fun x => if top = 6 ∨ n = 12 then none else
  if 160 ≤ x.1 ∧ x.1 ≤ 162 then (sq m 200 x.2.1 x.2.2 (top + 1) (n + 1) (n + 1)).bind fun L => if x.1 = 162 ∧ L.2 ≠ 1 then none else some ((x.1, par, x.2.1, x.2.2) :: L.1, x.2.2)
  else if lfb m x.1 x.2.1 x.2.2 = true then some ([(x.1, par, x.2.1, x.2.2)], x.2.2) else none
theorem sq_step {m : Nat → Nat} {p e top par n : Nat} (hp : p < e) (he : e ≤ 160) : sq m 200 p e top par n = (iw m p e top par n).bind fun A => (sq m 200 A.2 e top par (n + A.1.length)).map (fun R => (A.1 ++ R.1, R.2 + 1)) := by
  rw [show (200 : Nat) = 199 + 1 from rfl, sq, if_neg (by omega), show (199 + 1 : Nat) = 200 from rfl, iw]
  cases ht : tl m p e with
  | none => rfl
  | some x =>
    obtain ⟨t, f, u⟩ := x
    have b := tl_bd ht
    have h1 : ∀ n', sq m 199 u e top par n' = sq m 200 u e top par n' := fun n' => sq_fuel m 199 200 u e top par n' (by omega) (by omega)
    have h2 : sq m 199 f u (top + 1) (n + 1) (n + 1) = sq m 200 f u (top + 1) (n + 1) (n + 1) := sq_fuel m 199 200 f u _ _ _ (by omega) (by omega)
    simp only [Option.bind_some, h1, h2]
    by_cases h6 : top = 6 ∨ n = 12
    · simp only [if_pos h6]
      rfl
    · simp only [if_neg h6]
      by_cases hy : 160 ≤ t ∧ t ≤ 162
      · simp only [if_pos hy]
        cases hL : sq m 200 f u (top + 1) (n + 1) (n + 1) with
        | none => rfl
        | some L =>
          simp only [Option.bind_some]
          by_cases hz : t = 162 ∧ L.2 ≠ 1
          · simp only [if_pos hz]
            rfl
          · simp only [if_neg hz, Option.bind_some, List.length_cons, List.cons_append]
            rw [show n + 1 + L.1.length = n + (L.1.length + 1) by omega]
      · simp only [if_neg hy]
        by_cases hb : lfb m t f u = true
        · simp only [if_pos hb, Option.bind_some, List.length_cons, List.length_nil, List.cons_append, List.nil_append]
        · simp only [if_neg hb]
          rfl
theorem iw_bd {m : Nat → Nat} {p e top par n : Nat} {A : List (Nat × Nat × Nat × Nat) × Nat} (hn : n ≤ 12) (h : iw m p e top par n = some A) : p + 2 ≤ A.2 ∧ A.2 ≤ e ∧ 1 ≤ A.1.length ∧ n + A.1.length ≤ 12 := by
  unfold iw at h
  obtain ⟨x, hx, h⟩ := Option.bind_eq_some_iff.mp h
  obtain ⟨t, f, u⟩ := x
  have b := tl_bd hx
  by_cases h6 : top = 6 ∨ n = 12
  · rw [if_pos h6] at h; cases h
  · rw [if_neg h6] at h
    by_cases hy : 160 ≤ t ∧ t ≤ 162
    · rw [if_pos hy] at h
      obtain ⟨L, hL, h⟩ := Option.bind_eq_some_iff.mp h
      by_cases hz : t = 162 ∧ L.2 ≠ 1
      · rw [if_pos hz] at h; cases h
      · rw [if_neg hz] at h
        cases h
        have i := sq_len m _ _ _ _ _ _ L (by omega) hL
        refine ⟨by show p + 2 ≤ u; omega, b.2.2.2.2.1, by simp, ?_⟩
        simp only [List.length_cons]
        omega
    · rw [if_neg hy] at h
      by_cases hb : lfb m t f u = true
      · rw [if_pos hb] at h
        cases h
        refine ⟨by show p + 2 ≤ u; omega, b.2.2.2.2.1, by simp, ?_⟩
        simp
        omega
      · rw [if_neg hb] at h; cases h
/-- the texts of a filter that holds none -/
def tx (m : Nat → Nat) (x : Nat × Nat × Nat × Nat) : List (Nat × Nat) := if x.1 = 135 then [(x.2.2.1, x.2.2.2)] else if x.1 = 163 ∨ x.1 = 165 ∨ x.1 = 166 then match tk m 4 30 x.2.2.1 x.2.2.2 with
  | some B => match tk m 4 30 B.2 x.2.2.2 with
    | some C => [B, C]
    | none => []
  | none => []
  else []
/-- the filters that the class has taken so far, behind the texts T0 -/
def xFl (m : Nat → Nat) (I : xIt) (T0 : List (Nat × Nat)) (N : List (Nat × Nat × Nat × Nat)) : Prop := I 6 6 = nI N.length ∧ xTx I (T0 ++ N.flatMap (tx m)) ∧ ∀ (i : Nat) (x : Nat × Nat × Nat × Nat), N[i]? = some x → I 7 i = nI x.1 ∧ I 8 i = nI x.2.1 - 1 ∧ I 9 i = nI (T0 ++ (N.take i).flatMap (tx m)).length
set_option maxRecDepth 20000 in
theorem c_FL_add {l : Launch} {V : xV} {I : xIt} {J : xJt} {P : xPt} {m : Nat → Nat} {t par : Nat} {T0 : List (Nat × Nat)} {N : List (Nat × Nat × Nat × Nat)} (hL : xL P) (hF : xFl m I T0 N) (hn : N.length ≤ 12) : xMet l V y_FL_add 1 0 0 [xq (some 6), xi (nI t), xi (nI par - 1), xi (I 1 9)] xS0 I J P (xPi (fun r I' J' P' => J = J' ∧ P = P' ∧ xsm (dO 1 [] [6, 7, 8, 9]) I I' ∧ if N.length = 12 then r = -1 else r = nI N.length ∧ I' 6 6 = nI (N.length + 1) ∧ xTx I' (T0 ++ N.flatMap (tx m)) ∧ (∀ (i : Nat) (x : Nat × Nat × Nat × Nat), N[i]? = some x → I' 7 i = nI x.1 ∧ I' 8 i = nI x.2.1 - 1 ∧ I' 9 i = nI (T0 ++ (N.take i).flatMap (tx m)).length) ∧ I' 7 N.length = nI t ∧ I' 8 N.length = nI par - 1 ∧ I' 9 N.length = nI (T0 ++ N.flatMap (tx m)).length)) := by
  refine e_FL_add (b_FL_add_0 hL ?_)
  rw [hF.1, nI_1, pk_cl N.length]
  refine (pk_eq N.length 12 (fun c => ⟨rfl, rfl, xsm.rfl, by rw [if_pos c]⟩) (fun c => ⟨pk_in N.length 12 (by omega), pk_in N.length 12 (by omega), pk_in N.length 12 (by omega), rfl, rfl, (((xsm.rfl.put rfl).put rfl).put rfl).put rfl, ?_⟩)).symm
  rw [if_neg c]
  refine ⟨pk_sub (b := 1) (by omega), rfl, ⟨hF.2.1.1, hF.2.1.2⟩, ?_, ?_, ?_, ?_⟩
  · intro i x hi
    have hil : i < N.length := (List.getElem?_eq_some_iff.mp hi).1
    have h := hF.2.2 i x hi
    refine ⟨?_, ?_, ?_⟩
    · rw [xu_other (by omega), xu_other (by omega), xu_other (by omega), xu_other (by omega)]; exact h.1
    · rw [xu_other (by omega), xu_other (by omega), xu_other (by omega), xu_other (by omega)]; exact h.2.1
    · rw [xu_other (by omega), xu_other (by omega), xu_other (by omega), xu_other (by omega)]; exact h.2.2
  · rw [xu_other (by omega), xu_other (by omega), xu_other (by omega), xu_at]
  · rw [xu_other (by omega), xu_other (by omega), xu_at]
  · rw [xu_other (by omega), xu_at]
    exact hF.2.1.1

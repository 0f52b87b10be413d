/-! the class's value lists and attributes -/
def xAc (I : xIt) (C : List Nat) : Prop := I 1 11 = nI C.length ∧ ∀ (i c : Nat), C[i]? = some c → I 5 i = nI c
theorem xAc.sm {I I' : xIt} {D : Nat → Nat → Bool} {C : List Nat} (h : xAc I C) (hs : xsm D I I') (h9 : D 1 11 = false) (h3 : ∀ j, D 5 j = false) : xAc I' C := ⟨(hs 1 11 h9).trans h.1, fun i c hi => (hs 5 i (h3 i)).trans (h.2 i c hi)⟩
def rv (m : Nat → Nat) (p e : Nat) : Option (Nat × List (Nat × Nat)) := (tk m 49 255 p e).bind fun W => (vl m 8 W.1 W.2).map fun L => (W.2, L)
theorem QX_op {m : Nat → Nat} {w p e : Nat} {T : List (Nat × Nat)} {I I' : xIt} {J J' : xJt} {P P' : xPt} {r : Int32} (h : QX m w p e T I J P r I' J' P') : J = J' ∧ P = P' ∧ xsm (dO 1 [1, 9] [3, 4]) I I' ∧ xOp (tk m w 30 p e) r (fun q => I' 1 1 = nI q.2 ∧ xTx I' (T ++ [q])) := h
set_option maxRecDepth 20000 in
theorem c_RQ_readValues {l : Launch} {V : xV} {I : xIt} {J : xJt} {P : xPt} {m : Nat → Nat} {p e : Nat} {T : List (Nat × Nat)} {C : List Nat} (hL : xL P) (hm : xMs I 2 m e) (he : e ≤ 153) (hp : p ≤ e) (hT : xTx I T) (hC : xAc I C) (hl : 2 * T.length + 7 ≤ p) (hc18 : C.length < 18) (hat : I 1 1 = nI p) : xMet l V y_RQ_readValues 3 0 0 [xq (some 1), xi (nI e)] xS0 I J P (xPi (fun r I' J' P' => J = J' ∧ P = P' ∧ xsm (dO 1 [1, 9, 11] [3, 4, 5]) I I' ∧ xOp (rv m p e) r (fun q => I' 1 1 = nI q.1 ∧ xTx I' (T ++ q.2) ∧ xAc I' (C ++ [q.2.length])))) := by
  refine e_RQ_readValues (b_RQ_readValues_0 hL ⟨QE m 49 p e I J P, c_RQ_enter hL hm he hp (by decide) hat, ?_⟩)
  rintro r I1 _ _ ⟨rfl, rfl, o⟩
  refine x_on o (fun q hq => by have := tk_bd (f := q.1) (u := q.2) hq; omega) (fun hn _ hI => ⟨rfl, rfl, by rw [hI]; exact xsm.rfl, xOp.n (by simp [rv, hn]) rfl⟩) (fun q hq hr hI => ?_)
  subst hI
  obtain ⟨f, u⟩ := q
  have hr : r = nI u := hr
  subst hr
  have b := tk_bd hq
  have hrv : rv m p e = (vl m 8 f u).map fun L => (u, L) := by simp [rv, hq]
  have s1 : xsm (dO 1 [1, 9, 11] [3, 4, 5]) I (xu I 1 1 (nI f)) := xsm.rfl.put rfl
  rw [show xu I 1 1 (nI f) 1 11 = nI C.length from hC.1]
  refine (pk_eq C.length 18 (fun z => by omega) (fun z => ?_)).symm
  have last : ∀ (L0 : List (Nat × Nat)) (p1 : Nat) (I1 : xIt), p1 ≤ u → L0.length ≤ 8 → xsm (dO 1 [1, 9] [3, 4]) (xu I 1 1 (nI f)) I1 → I1 1 1 = nI p1 → xTx I1 (T ++ L0) → (p1 = u → vl m 8 f u = some L0) → (¬ p1 = u → vl m 8 f u = none) → G_RQ_readValues l V (fun r I' J' P' => J = J' ∧ P = P' ∧ xsm (dO 1 [1, 9, 11] [3, 4, 5]) I I' ∧ xOp (rv m p e) r (fun q => I' 1 1 = nI q.1 ∧ xTx I' (T ++ q.2) ∧ xAc I' (C ++ [q.2.length]))) 56 [(0, xq (some 1)), (1, xi (nI e)), (2, xi (nI u)), (3, xi (nI L0.length))] [] I1 J P := by
    intro L0 p1 I1 hp1 h8 hs h1 hT1 hy hn
    have hC1 : I1 1 11 = nI C.length := (hs 1 11 rfl).trans hC.1
    refine b_RQ_readValues_56 hL ?_
    rw [hC1, h1, nI_1, pk_cl C.length]
    have t := ((s1.trans (hs.O (ks' := [1, 9, 11]) (as' := [3, 4, 5]) rfl rfl)).put (a := 5) (k := C.length) (v := nI L0.length) rfl).put (a := 1) (k := 11) (v := nI (C.length + 1)) rfl
    refine ⟨pk_in C.length 18 hc18, (pk_eq p1 u (fun c => ⟨rfl, rfl, t, xOp.s (q := (u, L0)) (by rw [hrv, hy c]; rfl) rfl ⟨by rw [← c]; exact h1, ?_, ?_, ?_⟩⟩) (fun c => ⟨rfl, rfl, t, xOp.n (by rw [hrv, hn c]; rfl) rfl⟩)).symm⟩
    · refine ⟨hT1.1, fun i q hi => ⟨?_, ?_⟩⟩
      · rw [xu_other (by omega), xu_other (by omega)]; exact (hT1.2 i q hi).1
      · rw [xu_other (by omega), xu_other (by omega)]; exact (hT1.2 i q hi).2
    · show nI (C.length + 1) = _
      simp
    · intro i c hi
      by_cases hil : i < C.length
      · rw [List.getElem?_append_left hil] at hi
        rw [xu_other (by omega), xu_other (by omega)]
        exact (hs 5 i rfl).trans (hC.2 i c hi)
      · rw [List.getElem?_append_right (by omega)] at hi
        have h8 : i = C.length := by
          have := (List.getElem?_eq_some_iff.mp hi).1
          simp at this
          omega
        subst h8
        simp at hi
        subst hi
        rw [xu_other (by omega), xu_at]
  have loop : ∀ (k : Nat) (L0 : List (Nat × Nat)) (p1 : Nat) (I1 : xIt), L0.length + k = 8 → p1 ≤ u → 2 * (T ++ L0).length + 7 ≤ p1 → xsm (dO 1 [1, 9] [3, 4]) (xu I 1 1 (nI f)) I1 → I1 1 1 = nI p1 → xTx I1 (T ++ L0) → (vl m 8 f u = (vl m k p1 u).map (fun t => L0 ++ t)) → G_RQ_readValues l V (fun r I' J' P' => J = J' ∧ P = P' ∧ xsm (dO 1 [1, 9, 11] [3, 4, 5]) I I' ∧ xOp (rv m p e) r (fun q => I' 1 1 = nI q.1 ∧ xTx I' (T ++ q.2) ∧ xAc I' (C ++ [q.2.length]))) 25 [(0, xq (some 1)), (1, xi (nI e)), (2, xi (nI u)), (3, xi (nI L0.length))] [] I1 J P := by
    intro k
    induction k with
    | zero =>
      intro L0 p1 I1 hk hp1 h2 hs h1 hT1 hv
      refine b_RQ_readValues_25 hL (pk_le 8 L0.length (fun _ => last L0 p1 I1 hp1 (by omega) hs h1 hT1 (fun c => ?_) (fun c => ?_)) (fun c => by omega))
      · rw [hv]; simp only [vl, if_pos (show u ≤ p1 by omega), Option.map_some, List.append_nil]
      · rw [hv]; simp only [vl, if_neg (show ¬ u ≤ p1 by omega), Option.map_none]
    | succ k ih =>
      intro L0 p1 I1 hk hp1 h2 hs h1 hT1 hv
      refine b_RQ_readValues_25 hL (pk_le 8 L0.length (fun c => by omega) (fun _ => ?_))
      rw [h1]
      refine pk_le u p1 (fun c => last L0 p1 I1 hp1 (by omega) hs h1 hT1 (fun c => ?_) (fun c => by omega)) (fun c => ?_)
      · rw [hv]; simp only [vl, if_pos (show u ≤ p1 by omega), Option.map_some, List.append_nil]
      · refine ⟨QX m 4 p1 u (T ++ L0) I1 J P, c_RQ_readText hL (fun j hj => hm.sm (s1.trans (hs.O (ks' := [1, 9, 11]) (as' := [3, 4, 5]) rfl rfl)) (fun j => rfl) j (by omega)) (by omega) hp1 (by decide) hT1 (by omega) h1, ?_⟩
        intro r2 I2 J2 P2 hq2
        obtain ⟨rfl, rfl, s2, o2⟩ := QX_op hq2
        have hs2 := hs.trans s2
        refine (x_op o2 (fun q2 => ⟨rfl, rfl, s1.trans (hs2.O rfl rfl), xOp.n (by rw [hrv, hv]; simp [vl, show ¬ u ≤ p1 by omega, q2]) rfl⟩) (fun q q2 a2 => ?_)).symm
        have b2 := tk_bd (f := q.1) (u := q.2) q2
        rw [nI_1]
        have hh := ih (L0 ++ [q]) q.2 I2 (by simp; omega) (by omega) (by simp; simp at h2; omega) hs2 a2.1 (by rw [← List.append_assoc]; exact a2.2) (by
          rw [hv]
          simp only [vl, if_neg (show ¬ u ≤ p1 by omega), q2]
          cases vl m k q.2 u <;> simp)
        rw [show (L0 ++ [q]).length = L0.length + 1 from by simp] at hh
        exact hh
  exact loop 8 [] f _ rfl (by omega) (by simp; omega) xsm.rfl rfl (by rw [List.append_nil]; exact ⟨hT.1, hT.2⟩) (by cases vl m 8 f u <;> rfl)

/-! a request's texts as values and types -/
/-- the bytes from s to e -/
def sub (m : Nat → Nat) (s e : Nat) : List Nat := (List.range (e - s)).map (fun i => m (s + i))
theorem sub_len (m : Nat → Nat) (s e : Nat) : (sub m s e).length = e - s := by simp [sub]
theorem sub_succ {m : Nat → Nat} {s j : Nat} (h : s ≤ j) : sub m s (j + 1) = sub m s j ++ [m j] := by
  rw [sub, show j + 1 - s = (j - s) + 1 by omega, List.range_succ, List.map_append]
  simp [sub, show s + (j - s) = j by omega]
theorem sub_by8 {m : Nat → Nat} {s e : Nat} (h : ∀ j, j < e → m j < 256) : by8 (sub m s e) := by
  intro b hb
  obtain ⟨i, hi, rfl⟩ := List.mem_map.mp hb
  have := List.mem_range.mp hi
  exact h (s + i) (by omega)
/-- a text as a value, if it has one to six bytes -/
def vo (m : Nat → Nat) (s e : Nat) : Option (List Nat) := if s < e ∧ e - s ≤ 6 then some (sub m s e) else none
set_option maxRecDepth 20000 in
theorem c_PK_of {l : Launch} {V : xV} {I : xIt} {J : xJt} {P : xPt} {m : Nat → Nat} {s e : Nat} (hL : xL P) (hm : xMs I 2 m e) (he : e ≤ 153) (hs : s ≤ e) : xMet l V y_PK_of 2 0 0 [xq (some 2), xi (nI s), xi (nI e)] xS0 I J P (xPl (fun r I' J' P' => I = I' ∧ J = J' ∧ P = P' ∧ r = pko (vo m s e))) := by
  have hbb : ∀ j, j < e → m j < 256 := fun j hj => (hm j hj).2
  have loop : ∀ (k j : Nat), j + k = e → s ≤ j → s < e → e - s ≤ 6 → G_PK_of l V (fun r I' J' P' => I = I' ∧ J = J' ∧ P = P' ∧ r = pko (vo m s e)) 22 [(0, xq (some 2)), (1, xi (nI s)), (2, xi (nI e)), (3, xj (pkd (sub m s j))), (5, xi (nI j))] [] I J P := by
    intro k
    induction k with
    | zero =>
      intro j hj hsj h1 h6
      have hje : j = e := by omega
      subst hje
      refine b_PK_of_22 hL (pk_le j j (fun _ => ⟨rfl, rfl, rfl, ?_⟩) (fun z => by omega))
      simp [vo, h1, h6, pko]
    | succ k ih =>
      intro j hj hsj h1 h6
      refine b_PK_of_22 hL (pk_le e j (fun z => by omega) (fun _ => ⟨2, 153, rfl, s0_2, pk_in j 153 (by omega), ?_⟩))
      rw [pk_cl j, (hm j (by omega)).1, nI_1]
      refine ⟨_, c_PK_append hL (by rw [sub_len]; omega) (sub_by8 (fun i hi => hbb i (by omega))) (hbb j (by omega)), ?_⟩
      rintro z I1 _ _ ⟨rfl, rfl, rfl, rfl⟩
      rw [← sub_succ hsj]
      exact ih (j + 1) (by omega) (by omega) h1 h6
  refine e_PK_of (b_PK_of_0 hL ?_)
  refine pk_le e s (fun z => ⟨rfl, rfl, rfl, by simp [vo, show ¬ s < e by omega, pko]⟩) (fun z => ?_)
  rw [pk_sub hs]
  refine pk_le (e - s) 6 (fun z2 => ?_) (fun z2 => ⟨rfl, rfl, rfl, by simp [vo, show ¬ e - s ≤ 6 by omega, pko]⟩)
  have h := loop (e - s) s (by omega) (Nat.le_refl _) z z2
  rw [show sub m s s = [] from by simp [sub], pkd_0] at h
  exact h
theorem vo_ok {m : Nat → Nat} {s e : Nat} {L : List Nat} (hb : ∀ j, j < e → m j < 256) (h : vo m s e = some L) : L.length ≤ 6 ∧ by8 L ∧ L ≠ [] := by
  unfold vo at h
  by_cases hc : s < e ∧ e - s ≤ 6
  · rw [if_pos hc] at h
    cases h
    refine ⟨by rw [sub_len]; exact hc.2, sub_by8 hb, fun z => ?_⟩
    have := congrArg List.length z
    rw [sub_len] at this
    simp at this
    omega
  · rw [if_neg hc] at h
    cases h
section XTT
variable {l : Launch} {V : xV} {I : xIt} {J : xJt} {P : xPt} {m : Nat → Nat} {T : List (Nat × Nat)} {k e : Nat} {q : Nat × Nat}
set_option maxRecDepth 20000 in
theorem c_RQ_isEmpty (hL : xL P) (hT : xTx I T) (hk : T[k]? = some q) (hl : T.length ≤ 75) (hq : q.1 ≤ 153 ∧ q.2 ≤ 153) : xMet l V y_RQ_isEmpty 1 0 0 [xq (some 1), xi (nI k)] xS0 I J P (xPi (fun r I' J' P' => I = I' ∧ J = J' ∧ P = P' ∧ r = if q.1 = q.2 then 1 else 0)) := by
  have hkl := (List.getElem?_eq_some_iff.mp hk).1
  have h := hT.2 k q hk
  refine e_RQ_isEmpty (b_RQ_isEmpty_0 hL ⟨pk_in k 75 (by omega), pk_in k 75 (by omega), ?_⟩)
  rw [pk_cl k, h.1, h.2]
  exact (pk_eq q.1 q.2 (fun z => ⟨rfl, rfl, rfl, by rw [if_pos z]⟩) (fun z => ⟨rfl, rfl, rfl, by rw [if_neg z]⟩)).symm
set_option maxRecDepth 20000 in
theorem c_RQ_packed (hL : xL P) (hm : xMs I 2 m e) (he : e ≤ 153) (hT : xTx I T) (hk : T[k]? = some q) (hl : T.length ≤ 75) (hq : q.1 ≤ q.2 ∧ q.2 ≤ e) : xMet l V y_RQ_packed 3 0 0 [xq (some 1), xi (nI k)] xS0 I J P (xPl (fun r I' J' P' => I = I' ∧ J = J' ∧ P = P' ∧ r = pko (vo m q.1 q.2))) := by
  have hkl := (List.getElem?_eq_some_iff.mp hk).1
  have h := hT.2 k q hk
  refine e_RQ_packed (b_RQ_packed_0 hL ⟨pk_in k 75 (by omega), pk_in k 75 (by omega), ?_⟩)
  rw [pk_cl k, h.1, h.2, lp_1_0 hL]
  refine ⟨_, c_PK_of hL (fun j hj => hm j (by omega)) (by omega) hq.1, ?_⟩
  rintro z I1 _ _ ⟨rfl, rfl, rfl, rfl⟩
  exact ⟨rfl, rfl, rfl, rfl⟩
/-- the type that a text names -/
def tyx (m : Nat → Nat) (q : Nat × Nat) : Option Nat := if q.2 - q.1 = 1 then ty (m q.1) else none
set_option maxRecDepth 20000 in
theorem c_RQ_typeOf (hL : xL P) (hm : xMs I 2 m e) (he : e ≤ 153) (hT : xTx I T) (hk : T[k]? = some q) (hl : T.length ≤ 75) (hq : q.1 ≤ q.2 ∧ q.2 ≤ e) : xMet l V y_RQ_typeOf 3 0 0 [xq (some 1), xi (nI k)] xS0 I J P (xPi (fun r I' J' P' => I = I' ∧ J = J' ∧ P = P' ∧ r = tyo (tyx m q))) := by
  have hkl := (List.getElem?_eq_some_iff.mp hk).1
  have h := hT.2 k q hk
  refine e_RQ_typeOf (b_RQ_typeOf_0 hL ⟨pk_in k 75 (by omega), pk_in k 75 (by omega), ?_⟩)
  rw [pk_cl k, h.1, h.2, pk_sub hq.1]
  refine (pk_eq (q.2 - q.1) 1 (fun z => ⟨pk_in k 75 (by omega), pk_in q.1 153 (by omega), ?_⟩) (fun z => ⟨rfl, rfl, rfl, by simp [tyx, z, tyo]⟩)).symm
  rw [pk_cl q.1, (hm q.1 (by omega)).1]
  refine ⟨_, c_SX_typeOf hL (hm q.1 (by omega)).2, ?_⟩
  rintro w I1 _ _ ⟨rfl, rfl, rfl, rfl⟩
  refine ⟨rfl, rfl, rfl, ?_⟩
  simp only [tyx, if_pos z, tyo]
  cases ty (m q.1) <;> rfl
end XTT

/-! connect and what is asked, on both sides -/
theorem nI_io {n : Nat} (hn : n < 2 ^ 31) (v : Int32) : (∃ i, i < n ∧ v = nI i) ∨ (v < 0 ∨ nI n ≤ v) := by
  by_cases h : v < 0
  · exact Or.inr (Or.inl h)
  · obtain ⟨i, hi, rfl⟩ := nI_of h
    by_cases hin : i < n
    · exact Or.inl ⟨i, hin, rfl⟩
    · exact Or.inr (Or.inr (nI_le (by omega) hi))
theorem nI_nin {i n : Nat} (hi : i < n) (hn : n < 2 ^ 31) : ¬ (nI i < 0 ∨ nI n ≤ nI i) := by
  rintro (h | h)
  · exact nI_pos (by omega) h
  · have := (nI_leI (by omega) (by omega)).mp h
    omega
theorem i_nlt {a b : Int32} (h : b ≤ a) : ¬ a < b := fun h2 => Int32.lt_irrefl (Int32.lt_of_le_of_lt h h2)
theorem i5_4 {a : Int32} (h : nI 5 ≤ a) : ¬ a ≤ 4 := fun h2 => absurd (Int32.le_trans h h2) (by decide)
theorem i5_4' {a : Int32} (h : nI 5 ≤ a) : 4 < a := Int32.lt_of_lt_of_le (by decide : (4 : Int32) < nI 5) h
def qpa (D : List Ent) (v : Int32) : Int32 := if v < 0 ∨ nI D.length ≤ v then -2 else match D[v.toNatClampNeg]? with
  | some x => upI x.2.2.2
  | none => -2
def qvs (D : List Ent) (v t : Int32) : Int32 := if v < 0 ∨ nI D.length ≤ v then -1 else if t < 0 ∨ nI 5 ≤ t then -1 else match D[v.toNatClampNeg]? with
  | some x => nI (x.1 t.toNatClampNeg).length
  | none => -1
def qrw (R : List Vl) (q k : Int32) : Int32 := if q < 0 ∨ nI R.length ≤ q then -1 else match R[q.toNatClampNeg]? with
  | some y => if k < 0 ∨ nI y.1.length ≤ k then -1 else nI (gt y.1 k.toNatClampNeg)
  | none => -1
def qva (D : List Ent) (v t q k : Int32) : Int32 := if v < 0 ∨ nI D.length ≤ v then -1 else if t < 0 ∨ nI 5 ≤ t then -1 else match D[v.toNatClampNeg]? with
  | some x => qrw (x.1 t.toNatClampNeg) q k
  | none => -1
def Qs {α : Type} (r0 : α) (I : xIt) (J : xJt) (P : xPt) : α → xIt → xJt → xPt → Prop := fun r I' J' P' => I = I' ∧ J = J' ∧ P = P' ∧ r = r0
section XQ
variable {l : Launch} {V : xV} {I : xIt} {J : xJt} {P : xPt} {S : Ss}
theorem c_DS_connect (hC : xCla I J P S) : xMet l V y_DS_connect 1 0 0 [xq (some 0)] xS0 I J P (xPv (fun I' J' P' => (∀ a j, 250 ≤ a → I' a j = I a j) ∧ xCla I' J' P' (S.1, none, S.2.2.1, S.2.2.2.1, true, [], S.2.2.2.2.2.2))) := by
  obtain ⟨hL, ⟨o, hT, hb⟩, h03, h04, h01, h00, hM, hO⟩ := hC
  have hL' : xL (xu P 0 2 none) := by
    intro a k h
    by_cases hc : a = 0 ∧ k = 2
    · obtain ⟨rfl, rfl⟩ := hc
      exact absurd h (by decide)
    · rw [xu_other hc]; exact hL a k h
  refine e_DS_connect (b_DS_connect_0 hL ⟨hL', fun a j h => (xu_other (by omega)).trans (xu_other (by omega)), hL', ⟨o, hT.keep (fun a j h1 h2 => (xu_other (by omega)).trans (xu_other (by omega))) (fun _ _ _ _ => rfl) (fun a j h1 h2 => xu_other (by omega)), xu_at⟩, (xu_other (by omega)).trans ((xu_other (by omega)).trans h03), (xu_other (by omega)).trans ((xu_other (by omega)).trans h04), (xu_other (by omega)).trans xu_at, xu_at, fun j c hj => by simp at hj, ⟨(xu_other (by omega)).trans ((xu_other (by omega)).trans hO.1), hO.2.1, fun i b hi => (xu_other (by omega)).trans ((xu_other (by omega)).trans (hO.2.2 i b hi))⟩⟩)
theorem c_RF_connect (hL : xL P) (hR : xRl I S) : xMet l V y_RF_connect 1 0 0 [xq (some 250)] xS0 I J P (xPv (fun I' J' P' => J = J' ∧ P = P' ∧ (∀ a j, a < 250 → I' a j = I a j) ∧ xRl I' (S.1, none, S.2.2.1, S.2.2.2.1, true, [], S.2.2.2.2.2.2))) := by
  obtain ⟨hT, h37, h46, h47, h0, h1, hM, hO⟩ := hR
  have g : ∀ a j, ¬ (a = 250 ∧ (j = 0 ∨ j = 1 ∨ j = 37)) → (xu (xu (xu I 250 0 0) 250 1 0) 250 37 (-1)) a j = I a j := fun a j h => (xu_other (by omega)).trans ((xu_other (by omega)).trans (xu_other (by omega)))
  refine e_RF_connect (b_RF_connect_0 hL ⟨rfl, rfl, fun a j h => g a j (by omega), hT.keep' (g 250 27 (by omega)) (fun a j h1 h2 => g a j (by omega)), xu_at, (g 250 46 (by omega)).trans h46, (g 250 47 (by omega)).trans h47, (xu_other (by omega)).trans ((xu_other (by omega)).trans xu_at), (xu_other (by omega)).trans xu_at, fun j c hj => by simp at hj, (g 250 42 (by omega)).trans hO.1, hO.2.1, fun i b hi => (g 271 i (by omega)).trans (hO.2.2 i b hi)⟩)
theorem connect_ok (h : sok S) : sok (S.1, none, S.2.2.1, S.2.2.2.1, true, [], S.2.2.2.2.2.2) := ⟨h.1, fun k hk => (by cases hk), h.2.2.1, Or.inl rfl, fun c hc => (by cases hc), h.2.2.2.2.2⟩
-- the session
theorem c_DS_open (hC : xCla I J P S) : xMet l V y_DS_open 1 0 0 [xq (some 0)] xS0 I J P (xPi (Qs (if S.2.2.2.2.1 = true then 1 else 0) I J P)) := by
  refine e_DS_open (b_DS_open_0 hC.1 ?_)
  rw [hC.2.2.2.2.1]
  refine ⟨?_, rfl, rfl, rfl, rfl⟩
  by_cases h : S.2.2.2.2.1 = true
  · rw [if_pos h]; exact Or.inr rfl
  · rw [if_neg h]; exact Or.inl rfl
theorem c_RF_open (hL : xL P) (hR : xRl I S) : xMet l V y_RF_open 1 0 0 [xq (some 250)] xS0 I J P (xPi (Qs (if S.2.2.2.2.1 = true then 1 else 0) I J P)) := by
  refine e_RF_open (b_RF_open_0 hL ?_)
  rw [hR.2.2.2.2.1]
  by_cases h : S.2.2.2.2.1 = true
  · rw [if_pos h]; exact ⟨fun z => absurd rfl z, fun _ => ⟨rfl, rfl, rfl, by rw [if_pos h]⟩⟩
  · rw [if_neg h]; exact ⟨fun _ => ⟨rfl, rfl, rfl, by rw [if_neg h]⟩, fun z => absurd z (by decide)⟩
theorem c_DS_kept (hC : xCla I J P S) : xMet l V y_DS_kept 1 0 0 [xq (some 0)] xS0 I J P (xPi (Qs (nI S.2.2.2.2.2.1.length) I J P)) := e_DS_kept (b_DS_kept_0 hC.1 ⟨rfl, rfl, rfl, hC.2.2.2.2.2.1⟩)
theorem c_RF_kept (hL : xL P) (hR : xRl I S) : xMet l V y_RF_kept 1 0 0 [xq (some 250)] xS0 I J P (xPi (Qs (nI S.2.2.2.2.2.1.length) I J P)) := e_RF_kept (b_RF_kept_0 hL ⟨rfl, rfl, rfl, hR.2.2.2.2.2.1⟩)
theorem c_DS_bound (hC : xCla I J P S) (hS : sok S) : xMet l V y_DS_bound 2 0 0 [xq (some 0)] xS0 I J P (xPi (Qs (upI S.2.1) I J P)) := by
  obtain ⟨hL, ⟨o, hT, hb⟩, -⟩ := hC
  refine e_DS_bound (b_DS_bound_0 hL ?_)
  rw [hb]
  cases h : S.2.1 with
  | none => exact ⟨fun z => absurd rfl z, fun _ => ⟨rfl, rfl, rfl, rfl⟩⟩
  | some k =>
    refine ⟨fun _ => ⟨_, c_TR_placeOf hL hT (hS.2.1 k h), ?_⟩, fun z => by cases z⟩
    rintro z1 _ _ _ ⟨rfl, rfl, rfl, rfl⟩
    exact ⟨rfl, rfl, rfl, rfl⟩
theorem c_RF_bound (hL : xL P) (hR : xRl I S) : xMet l V y_RF_bound 1 0 0 [xq (some 250)] xS0 I J P (xPi (Qs (upI S.2.1) I J P)) := e_RF_bound (b_RF_bound_0 hL ⟨rfl, rfl, rfl, hR.2.1⟩)
theorem c_DS_code (hC : xCla I J P S) : xMet l V y_DS_code 1 0 0 [xq (some 0)] xS0 I J P (xPi (Qs S.2.2.1 I J P)) := e_DS_code (b_DS_code_0 hC.1 ⟨rfl, rfl, rfl, hC.2.2.1⟩)
theorem c_RF_code (hL : xL P) (hR : xRl I S) : xMet l V y_RF_code 1 0 0 [xq (some 250)] xS0 I J P (xPi (Qs S.2.2.1 I J P)) := e_RF_code (b_RF_code_0 hL ⟨rfl, rfl, rfl, hR.2.2.1⟩)
theorem c_DS_found (hC : xCla I J P S) : xMet l V y_DS_found 1 0 0 [xq (some 0)] xS0 I J P (xPi (Qs (nI S.2.2.2.1) I J P)) := e_DS_found (b_DS_found_0 hC.1 ⟨rfl, rfl, rfl, hC.2.2.2.1⟩)
theorem c_RF_found (hL : xL P) (hR : xRl I S) : xMet l V y_RF_found 1 0 0 [xq (some 250)] xS0 I J P (xPi (Qs (nI S.2.2.2.1) I J P)) := e_RF_found (b_RF_found_0 hL ⟨rfl, rfl, rfl, hR.2.2.2.1⟩)
theorem c_DS_length (hC : xCla I J P S) : xMet l V y_DS_length 1 0 0 [xq (some 0)] xS0 I J P (xPi (Qs (nI S.2.2.2.2.2.2.length) I J P)) := e_DS_length (b_DS_length_0 hC.1 ⟨rfl, rfl, rfl, hC.2.2.2.2.2.2.2.1⟩)
theorem c_RF_length (hL : xL P) (hR : xRl I S) : xMet l V y_RF_length 1 0 0 [xq (some 250)] xS0 I J P (xPi (Qs (nI S.2.2.2.2.2.2.length) I J P)) := e_RF_length (b_RF_length_0 hL ⟨rfl, rfl, rfl, hR.2.2.2.2.2.2.2.1⟩)
theorem c_DS_entries (hC : xCla I J P S) : xMet l V y_DS_entries 1 0 0 [xq (some 0)] xS0 I J P (xPi (Qs (nI S.1.length) I J P)) := e_DS_entries (b_DS_entries_0 hC.1 ⟨rfl, rfl, rfl, by obtain ⟨o, hT, -⟩ := hC.2.1; exact hT.1⟩)
theorem c_RF_entries (hL : xL P) (hR : xRl I S) : xMet l V y_RF_entries 1 0 0 [xq (some 250)] xS0 I J P (xPi (Qs (nI S.1.length) I J P)) := e_RF_entries (b_RF_entries_0 hL ⟨rfl, rfl, rfl, hR.1.1⟩)
theorem c_DS_output {k : Int32} (hC : xCla I J P S) : xMet l V y_DS_output 2 0 0 [xq (some 0), xi k] xS0 I J P (xPl (Qs (o8k S.2.2.2.2.2.2 k) I J P)) := e_DS_output (b_DS_output_0 hC.1 ⟨_, c_AN_eightBytes hC.1 hC.2.2.2.2.2.2.2, fun _ _ _ _ h => h⟩)
set_option maxRecDepth 20000 in
theorem c_RF_output {k : Int32} (hL : xL P) (hR : xRl I S) : xMet l V y_RF_output 1 0 0 [xq (some 250), xi k] xS0 I J P (xPl (Qs (o8k S.2.2.2.2.2.2 k) I J P)) := by
  have hO := hR.2.2.2.2.2.2.2
  have hl := hO.2.1
  generalize S.2.2.2.2.2.2 = W at *
  have loop : ∀ (n j i : Nat) (v : Int64), i ≤ 256 → j + n = 8 * i + 8 → o8k W k = o8 W n j v → k = nI i → G_RF_output l V (Qs (o8k W k) I J P) 21 [(0, xq (some 250)), (1, xi k), (2, xj v), (4, xi (nI j))] [] I J P := by
    intro n
    induction n with
    | zero =>
      intro j i v hi hj hx hk
      subst hk
      refine b_RF_output_21 hL ?_
      rw [show (8 : Int32) = nI 8 from rfl, pk_mul, nI_add, hO.1]
      exact pk_le (8 * i + 8) j (fun _ => ⟨rfl, rfl, rfl, hx.symm⟩) (fun z => by omega)
    | succ n ih =>
      intro j i v hi hj hx hk
      have hk' := hk
      subst hk
      refine b_RF_output_21 hL ?_
      rw [hO.1, nI_1]
      refine pk_le (8 * i + 8) j (fun z => by omega) (fun _ => pk_le W.length j (fun z => ?_) (fun z => ⟨pk_in j 2048 (by omega), ?_⟩)) (by rw [show (8 : Int32) = nI 8 from rfl, pk_mul, nI_add])
      · refine ih (j + 1) i _ hi (by omega) ?_ rfl
        rw [hx, o8, List.getD_eq_getElem?_getD, List.getElem?_eq_none z]
        rfl
      · rw [ncl j]
        have hg := List.getElem?_eq_getElem z
        rw [hO.2.2 j _ hg]
        refine ih (j + 1) i _ hi (by omega) ?_ rfl
        rw [hx, o8, List.getD_eq_getElem?_getD, hg]
        rfl
  refine e_RF_output (b_RF_output_0 hL ?_)
  rcases nI_io (n := 256) (by omega) k with ⟨i, hi, rfl⟩ | hk
  · rw [nI_8m]
    refine ⟨fun z => absurd z (nI_pos (by omega)), fun _ => pk_lt i 256 (fun _ => ?_) (fun z => by omega)⟩
    refine loop 8 (8 * i) i 0 (by omega) rfl ?_ rfl
    rw [o8k, if_neg (nI_nin hi (by omega)), ncl i]
  · have h0 : o8k W k = 0 := by rw [o8k, if_pos hk]
    refine ⟨fun z => ⟨rfl, rfl, rfl, h0.symm⟩, fun z => ⟨fun z2 => absurd z2 (i_nlt (hk.resolve_left z)), fun _ => ⟨rfl, rfl, rfl, h0.symm⟩⟩⟩
-- the entries
theorem eAt_in {o : Nat → Nat} {D : List Ent} {i : Nat} (h : i < D.length) (h12 : D.length ≤ 12) : eAt o D (nI i) = some (o i) := by
  unfold eAt; rw [if_neg (nI_nin h (by omega)), ncl i]
theorem eAt_out {o : Nat → Nat} {D : List Ent} {v : Int32} (h : v < 0 ∨ nI D.length ≤ v) : eAt o D v = none := by
  unfold eAt; rw [if_pos h]
set_option maxRecDepth 20000 in
theorem c_DS_parent {v : Int32} (hC : xCla I J P S) (hS : sok S) : xMet l V y_DS_parent 2 0 0 [xq (some 0), xi v] xS0 I J P (xPi (Qs (qpa S.1 v) I J P)) := by
  obtain ⟨hL, ⟨o, hT, -⟩, -⟩ := hC
  have h12 := hT.2.1
  refine e_DS_parent (b_DS_parent_0 hL ⟨_, c_TR_entryAt hL hT, ?_⟩)
  rintro z1 _ _ _ ⟨rfl, rfl, rfl, rfl⟩
  rcases nI_io (n := S.1.length) (by omega) v with ⟨i, hi, rfl⟩ | hv
  · have hg := List.getElem?_eq_getElem hi
    rw [eAt_in hi h12]
    have hE := hT.2.2.2.2 i _ hg
    have hw := (hS.1.1 i _ hg).2
    refine ⟨fun _ => ⟨_, rfl, (hT.2.2.1 i (by omega)).2.1, ?_⟩, fun z => by cases z⟩
    rw [hE.2.2.2.2]
    have hq : qpa S.1 (nI i) = upI (S.1[i]).2.2.2 := by rw [qpa, if_neg (nI_nin hi (by omega)), ncl i, hg]
    cases hu : (S.1[i]).2.2.2 with
    | none => exact ⟨fun z => absurd rfl z, fun _ => ⟨rfl, rfl, rfl, by rw [hq, hu]; rfl⟩⟩
    | some u =>
      have hui := hw u hu
      refine ⟨fun _ => ⟨_, c_TR_placeOf hL hT (i := u) (by omega), ?_⟩, fun z => by cases z⟩
      rintro z1 _ _ _ ⟨rfl, rfl, rfl, rfl⟩
      exact ⟨rfl, rfl, rfl, by rw [hq, hu]; rfl⟩
  · rw [eAt_out hv]
    exact ⟨fun z => absurd rfl z, fun _ => ⟨rfl, rfl, rfl, by rw [qpa, if_pos hv]⟩⟩
theorem c_RF_parent {v : Int32} (hL : xL P) (hR : xRl I S) : xMet l V y_RF_parent 1 0 0 [xq (some 250), xi v] xS0 I J P (xPi (Qs (qpa S.1 v) I J P)) := by
  have hT := hR.1
  have h12 := hT.2.1
  refine e_RF_parent (b_RF_parent_0 hL ?_)
  rw [hT.1]
  rcases nI_io (n := S.1.length) (by omega) v with ⟨i, hi, rfl⟩ | hv
  · have hg := List.getElem?_eq_getElem hi
    refine ⟨fun z => absurd z (nI_pos (by omega)), fun _ => pk_lt i S.1.length (fun _ => ⟨pk_in i 13 (by omega), rfl, rfl, rfl, ?_⟩) (fun z => by omega)⟩
    rw [qpa, if_neg (nI_nin hi (by omega)), ncl i, hg]
    exact (hT.2.2 i _ hg).2.1
  · have hq : qpa S.1 v = -2 := by rw [qpa, if_pos hv]
    exact ⟨fun z => ⟨rfl, rfl, rfl, hq.symm⟩, fun z => ⟨fun z2 => absurd z2 (i_nlt (hv.resolve_left z)), fun _ => ⟨rfl, rfl, rfl, hq.symm⟩⟩⟩
set_option maxRecDepth 20000 in
theorem c_DS_values {v t : Int32} (hC : xCla I J P S) : xMet l V y_DS_values 2 0 0 [xq (some 0), xi v, xi t] xS0 I J P (xPi (Qs (qvs S.1 v t) I J P)) := by
  obtain ⟨hL, ⟨o, hT, -⟩, -⟩ := hC
  have h12 := hT.2.1
  refine e_DS_values (b_DS_values_0 hL ⟨_, c_TR_entryAt hL hT, ?_⟩)
  rintro z1 _ _ _ ⟨rfl, rfl, rfl, rfl⟩
  rcases nI_io (n := S.1.length) (by omega) v with ⟨i, hi, rfl⟩ | hv
  · have hg := List.getElem?_eq_getElem hi
    rw [eAt_in hi h12]
    have hE := hT.2.2.2.2 i _ hg
    have ho := (hT.2.2.1 i (by omega)).2.1
    refine ⟨fun z => (by cases z), fun _ => ?_⟩
    rcases nI_io (n := 5) (by omega) t with ⟨j, hj, rfl⟩ | ht
    · refine ⟨fun z => absurd z (nI_pos (by omega)), fun _ => pk_lt j 5 (fun _ => ⟨_, rfl, ho, pk_in j 5 hj, ?_⟩) (fun z => by omega)⟩
      rw [ncl j]
      refine ⟨_, (en_row hL ho hj).1, (en_row hL ho hj).2, rfl, rfl, rfl, ?_⟩
      rw [(hE.1 j hj).1, qvs, if_neg (nI_nin hi (by omega)), if_neg (nI_nin hj (by omega)), ncl i, ncl j, hg]
      simp [pkr]
    · have hq : qvs S.1 (nI i) t = -1 := by rw [qvs, if_neg (nI_nin hi (by omega)), if_pos ht]
      exact ⟨fun z => ⟨rfl, rfl, rfl, hq.symm⟩, fun z => ⟨fun z2 => absurd z2 (i_nlt (ht.resolve_left z)), fun _ => ⟨rfl, rfl, rfl, hq.symm⟩⟩⟩
  · rw [eAt_out hv]
    exact ⟨fun _ => ⟨rfl, rfl, rfl, by rw [qvs, if_pos hv]⟩, fun z => absurd rfl z⟩
theorem c_RF_values {v t : Int32} (hL : xL P) (hR : xRl I S) : xMet l V y_RF_values 1 0 0 [xq (some 250), xi v, xi t] xS0 I J P (xPi (Qs (qvs S.1 v t) I J P)) := by
  have hT := hR.1
  have h12 := hT.2.1
  refine e_RF_values (b_RF_values_0 hL ?_)
  rw [hT.1]
  rcases nI_io (n := S.1.length) (by omega) v with ⟨i, hi, rfl⟩ | hv
  · have hg := List.getElem?_eq_getElem hi
    refine ⟨fun z => absurd z (nI_pos (by omega)), fun _ => pk_le S.1.length i (fun z => by omega) (fun _ => ?_)⟩
    rcases nI_io (n := 5) (by omega) t with ⟨j, hj, rfl⟩ | ht
    · rw [nI_5m, nI_add, ncl (5 * i + j)]
      refine ⟨fun z => absurd z (nI_pos (by omega)), fun _ => pk_le j 4 (fun _ => ⟨pk_in (5 * i + j) 65 (by omega), rfl, rfl, rfl, ?_⟩) (fun z => by omega)⟩
      rw [((hT.2.2 i _ hg).1 j hj).2.1, qvs, if_neg (nI_nin hi (by omega)), if_neg (nI_nin hj (by omega)), ncl i, ncl j, hg]
    · have hq : qvs S.1 (nI i) t = -1 := by rw [qvs, if_neg (nI_nin hi (by omega)), if_pos ht]
      exact ⟨fun z => ⟨rfl, rfl, rfl, hq.symm⟩, fun z => ⟨fun z2 => absurd z2 (i5_4 (ht.resolve_left z)), fun _ => ⟨rfl, rfl, rfl, hq.symm⟩⟩⟩
  · have hq : qvs S.1 v t = -1 := by rw [qvs, if_pos hv]
    exact ⟨fun z => ⟨rfl, rfl, rfl, hq.symm⟩, fun z => ⟨fun _ => ⟨rfl, rfl, rfl, hq.symm⟩, fun z2 => absurd (hv.resolve_left z) z2⟩⟩
set_option maxRecDepth 20000 in
theorem c_DS_value {v t q k : Int32} (hC : xCla I J P S) (hS : sok S) : xMet l V y_DS_value 2 0 0 [xq (some 0), xi v, xi t, xi q, xi k] xS0 I J P (xPi (Qs (qva S.1 v t q k) I J P)) := by
  obtain ⟨hL, ⟨o, hT, -⟩, -⟩ := hC
  have h12 := hT.2.1
  refine e_DS_value (b_DS_value_0 hL ⟨_, c_TR_entryAt hL hT, ?_⟩)
  rintro z1 _ _ _ ⟨rfl, rfl, rfl, rfl⟩
  rcases nI_io (n := S.1.length) (by omega) v with ⟨i, hi, rfl⟩ | hv
  · have hg := List.getElem?_eq_getElem hi
    rw [eAt_in hi h12]
    have hE := hT.2.2.2.2 i _ hg
    have ho := (hT.2.2.1 i (by omega)).2.1
    have hwf := (hS.1.1 i _ hg).1.1
    refine ⟨fun z => (by cases z), fun _ => ?_⟩
    rcases nI_io (n := 5) (by omega) t with ⟨j, hj, rfl⟩ | ht
    · refine ⟨fun z => absurd z (nI_pos (by omega)), fun _ => pk_lt j 5 (fun _ => ⟨_, rfl, ho, pk_in j 5 hj, ?_⟩) (fun z => by omega)⟩
      have hq0 : qva S.1 (nI i) (nI j) q k = qrw ((S.1[i]).1 j) q k := by rw [qva, if_neg (nI_nin hi (by omega)), if_neg (nI_nin hj (by omega)), ncl i, ncl j, hg]
      have hR := hE.1 j hj
      have hwr := hwf j hj
      have hl3 := hwr.2.1
      have hmo : mo j ≤ 3 := by unfold mo; split <;> omega
      have hlen : (pkr ((S.1[i]).1 j)).length = ((S.1[i]).1 j).length := by simp [pkr]
      rcases nI_io (n := ((S.1[i]).1 j).length) (by omega) q with ⟨c, hc, rfl⟩ | hqq
      · have hgc := List.getElem?_eq_getElem hc
        have hpc : (pkr ((S.1[i]).1 j))[c]? = some (pkd (((S.1[i]).1 j)[c]).1, pkd (((S.1[i]).1 j)[c]).2) := by
          unfold pkr; rw [List.getElem?_map, hgc]; rfl
        have hq1 : qrw ((S.1[i]).1 j) (nI c) k = if k < 0 ∨ nI (((S.1[i]).1 j)[c]).1.length ≤ k then -1 else nI (gt (((S.1[i]).1 j)[c]).1 k.toNatClampNeg) := by rw [qrw, if_neg (nI_nin hc (by omega)), ncl c, hgc]
        have hvk := hwr.1 _ (List.getElem_mem hc)
        rw [ncl j, ncl c]
        refine ⟨fun z => absurd z (nI_pos (by omega)), fun _ => ⟨_, (en_row hL ho hj).1, (en_row hL ho hj).2, ?_⟩⟩
        rw [hR.1, hlen]
        refine pk_le ((S.1[i]).1 j).length c (fun z => by omega) (fun _ => ?_)
        have hcap := (vr_cap (en_row hL ho hj).2).2.1
        have hxl : c < xLn (o i + 2 + 3 * j + 1) := by have h1 : (pkr ((S.1[i]).1 j)).length ≤ xLn (o i + 2 + 3 * j + 1) := hR.2.1; omega
        have hJ := (hR.2.2 c _ hpc).1
        rw [hJ]
        refine ⟨fun z => ⟨rfl, rfl, rfl, by rw [hq0, hq1, if_pos (Or.inl z)]⟩, fun z => ⟨pk_in c (xLn (o i + 2 + 3 * j + 1)) hxl, _, c_PK_sizeOf hL hvk.1 hvk.2.1, ?_⟩⟩
        rintro z1 _ _ _ ⟨rfl, rfl, rfl, rfl⟩
        have h6 := hvk.1
        rcases nI_io (n := (((S.1[i]).1 j)[c]).1.length) (by omega) k with ⟨d, hd, rfl⟩ | hk
        · rw [hJ]
          refine pk_lt d (((S.1[i]).1 j)[c]).1.length (fun _ => ⟨pk_in c (xLn (o i + 2 + 3 * j + 1)) hxl, _, c_PK_byteAt hL hvk.1 hvk.2.1 (List.getElem?_eq_getElem hd), ?_⟩) (fun z => by omega)
          rintro z1 _ _ _ ⟨rfl, rfl, rfl, rfl⟩
          exact ⟨rfl, rfl, rfl, by rw [hq0, hq1, if_neg (nI_nin hd (by omega)), ncl d, gt_at (List.getElem?_eq_getElem hd)]⟩
        · exact ⟨fun z2 => absurd z2 (i_nlt (hk.resolve_left z)), fun _ => ⟨rfl, rfl, rfl, by rw [hq0, hq1, if_pos hk]⟩⟩
      · have hq1 : qrw ((S.1[i]).1 j) q k = -1 := by rw [qrw, if_pos hqq]
        refine ⟨fun z => ⟨rfl, rfl, rfl, by rw [hq0, hq1]⟩, fun z => ⟨o i + 2 + 3 * j, ?_, (en_row hL ho hj).2, ?_⟩⟩
        · rw [ncl j]; exact (en_row hL ho hj).1
        · rw [hR.1, hlen]
          exact ⟨fun _ => ⟨rfl, rfl, rfl, by rw [hq0, hq1]⟩, fun z2 => absurd (hqq.resolve_left z) z2⟩
    · have hq : qva S.1 (nI i) t q k = -1 := by rw [qva, if_neg (nI_nin hi (by omega)), if_pos ht]
      exact ⟨fun z => ⟨rfl, rfl, rfl, hq.symm⟩, fun z => ⟨fun z2 => absurd z2 (i_nlt (ht.resolve_left z)), fun _ => ⟨rfl, rfl, rfl, hq.symm⟩⟩⟩
  · rw [eAt_out hv]
    exact ⟨fun _ => ⟨rfl, rfl, rfl, by rw [qva, if_pos hv]⟩, fun z => absurd rfl z⟩
set_option maxRecDepth 20000 in
theorem c_RF_value {v t q k : Int32} (hL : xL P) (hR : xRl I S) : xMet l V y_RF_value 1 0 0 [xq (some 250), xi v, xi t, xi q, xi k] xS0 I J P (xPi (Qs (qva S.1 v t q k) I J P)) := by
  have hT := hR.1
  have h12 := hT.2.1
  refine e_RF_value (b_RF_value_0 hL ?_)
  rw [hT.1]
  rcases nI_io (n := S.1.length) (by omega) v with ⟨i, hi, rfl⟩ | hv
  · have hg := List.getElem?_eq_getElem hi
    refine ⟨fun z => absurd z (nI_pos (by omega)), fun _ => pk_le S.1.length i (fun z => by omega) (fun _ => ?_)⟩
    rcases nI_io (n := 5) (by omega) t with ⟨j, hj, rfl⟩ | ht
    · have hq0 : qva S.1 (nI i) (nI j) q k = qrw ((S.1[i]).1 j) q k := by rw [qva, if_neg (nI_nin hi (by omega)), if_neg (nI_nin hj (by omega)), ncl i, ncl j, hg]
      have hr := (hT.2.2 i _ hg).1 j hj
      have h3 := hr.1
      refine ⟨fun z => absurd z (nI_pos (by omega)), fun _ => pk_lt 4 j (fun z => by omega) (fun _ => ?_)⟩
      rw [nI_5m, nI_15m, nI_3m, nI_add, nI_add, ncl (5 * i + j), hr.2.1]
      refine ⟨fun z => ⟨rfl, rfl, rfl, by rw [hq0, qrw, if_pos (Or.inl z)]⟩, fun z => ⟨pk_in (5 * i + j) 65 (by omega), ?_⟩⟩
      rcases nI_io (n := ((S.1[i]).1 j).length) (by omega) q with ⟨c, hc, rfl⟩ | hqq
      · have hgc := List.getElem?_eq_getElem hc
        have hq1 : qrw ((S.1[i]).1 j) (nI c) k = if k < 0 ∨ nI (((S.1[i]).1 j)[c]).1.length ≤ k then -1 else nI (gt (((S.1[i]).1 j)[c]).1 k.toNatClampNeg) := by rw [qrw, if_neg (nI_nin hc (by omega)), ncl c, hgc]
        have hv := hr.2.2 c _ hgc
        have h6 := hv.1.1
        refine pk_lt c ((S.1[i]).1 j).length (fun _ => ⟨fun z => ⟨rfl, rfl, rfl, by rw [hq0, hq1, if_pos (Or.inl z)]⟩, fun zk => ?_⟩) (fun z => by omega)
        rw [nI_add, ncl (15 * i + 3 * j + c), show 15 * i + 3 * j + c = 3 * (5 * i + j) + c by omega, hv.2.1]
        refine ⟨pk_in (3 * (5 * i + j) + c) 195 (by omega), ?_⟩
        rcases nI_io (n := (((S.1[i]).1 j)[c]).1.length) (by omega) k with ⟨d, hd, rfl⟩ | hk
        · refine pk_lt d (((S.1[i]).1 j)[c]).1.length (fun _ => ?_) (fun z => by omega)
          rw [nI_6m, nI_add, ncl (6 * (3 * (5 * i + j) + c) + d)]
          refine ⟨pk_in (6 * (3 * (5 * i + j) + c) + d) 1170 (by omega), rfl, rfl, rfl, ?_⟩
          rw [hv.2.2.2.1 d _ (List.getElem?_eq_getElem hd), hq0, hq1, if_neg (nI_nin hd (by omega)), ncl d, gt_at (List.getElem?_eq_getElem hd)]
        · exact ⟨fun z2 => absurd z2 (i_nlt (hk.resolve_left zk)), fun _ => ⟨rfl, rfl, rfl, by rw [hq0, hq1, if_pos hk]⟩⟩
      · have hq1 : qrw ((S.1[i]).1 j) q k = -1 := by rw [qrw, if_pos hqq]
        exact ⟨fun z2 => absurd z2 (i_nlt (hqq.resolve_left z)), fun _ => ⟨rfl, rfl, rfl, by rw [hq0, hq1]⟩⟩
    · have hq : qva S.1 (nI i) t q k = -1 := by rw [qva, if_neg (nI_nin hi (by omega)), if_pos ht]
      exact ⟨fun z => ⟨rfl, rfl, rfl, hq.symm⟩, fun z => ⟨fun _ => ⟨rfl, rfl, rfl, hq.symm⟩, fun z2 => absurd (i5_4' (ht.resolve_left z)) z2⟩⟩
  · have hq : qva S.1 v t q k = -1 := by rw [qva, if_pos hv]
    exact ⟨fun z => ⟨rfl, rfl, rfl, hq.symm⟩, fun z => ⟨fun _ => ⟨rfl, rfl, rfl, hq.symm⟩, fun z2 => absurd (hv.resolve_left z) z2⟩⟩
end XQ

/-! the reference: the schema, a request's values -/
theorem vl_30 {m : Nat → Nat} : ∀ (k p e : Nat) (L : List (Nat × Nat)), vl m k p e = some L → ∀ q ∈ L, q.2 - q.1 ≤ 30 := by
  intro k
  induction k with
  | zero =>
    intro p e L h
    rw [vl] at h
    by_cases h1 : e ≤ p
    · rw [if_pos h1] at h; cases h; intro q hq; cases hq
    · rw [if_neg h1] at h; cases h
  | succ k ih =>
    intro p e L h
    rw [vl] at h
    by_cases h1 : e ≤ p
    · rw [if_pos h1] at h; cases h; intro q hq; cases hq
    · rw [if_neg h1] at h
      cases ht : tk m 4 30 p e with
      | none => rw [ht] at h; cases h
      | some q =>
        rw [ht] at h
        simp only at h
        obtain ⟨t, ht2, rfl⟩ := Option.map_eq_some_iff.mp h
        intro q' hq'
        rcases List.mem_cons.mp hq' with rfl | hq'
        · exact (tk_bd ht).2.2.2.2.2.1
        · exact ih _ _ _ ht2 q' hq'
theorem rdv_val {m : Nat → Nat} {t : Nat} : ∀ {L : List (Nat × Nat)} {acc R : List Vl}, rdv m t L acc = .inr R → ∃ S, R = acc ++ S ∧ S.length = L.length ∧ ∀ (i : Nat) (q : Nat × Nat), L[i]? = some q → ∃ v, S[i]? = some v ∧ val m t q = some v := by
  intro L
  induction L with
  | nil =>
    intro acc R h
    cases h
    exact ⟨[], by simp, rfl, fun i q hi => by simp at hi⟩
  | cons q L ih =>
    intro acc R h
    rw [rdv] at h
    cases hv : val m t q with
    | none => rw [hv] at h; cases h
    | some v =>
      rw [hv] at h
      simp only at h
      by_cases hh : hs acc v.2 = true
      · rw [if_pos hh] at h; cases h
      · rw [if_neg hh] at h
        obtain ⟨S, hS, hl, hg⟩ := ih h
        refine ⟨v :: S, by rw [hS]; simp, by simp [hl], fun i q' hi => ?_⟩
        cases i with
        | zero => simp at hi; subst hi; exact ⟨v, rfl, hv⟩
        | succ i => exact hg i q' hi
section XRJ
variable {l : Launch} {V : xV} {I : xIt} {J : xJt} {P : xPt} {A : Nat → List Vl} {m : Nat → Nat} {e : Nat}
set_option maxRecDepth 20000 in
theorem c_RF_fits {s : Nat} (hL : xL P) (hs13 : s < 13) (hR : ∀ t, t < 5 → xRr I (5 * s + t) (A t)) (hw : wfr 0 (A 0)) : xMet l V y_RF_fits 4 0 0 [xq (some 250), xi (nI s)] xS0 I J P (xPi (fun r I' J' P' => J = J' ∧ P = P' ∧ xSfo 4 I I' ∧ r = if fitb A = true then 1 else 0)) := by
  have h8 : ∀ v ∈ A 0, by8 v.2 := fun v hv => (vk_pl (hw.1 v hv)).2
  rw [← fitr_eq hw.2.2]
  have hst : stru (A 0) < 4 := by unfold stru; split <;> split <;> omega
  refine e_RF_fits (b_RF_fits_0 hL ⟨_, c_RF_structural hL hs13 (hR 0 (by omega)) h8, ?_⟩)
  rintro r1 I1 _ _ ⟨rfl, rfl, hs1, rfl⟩
  refine ⟨_, c_RF_inClass (c := 120) hL hs13 (by omega) ((hR 0 (by omega)).keep (fun a i hc => hs1 a i (by unfold cr at hc; omega))) h8, ?_⟩
  rintro r2 I2 _ _ ⟨rfl, rfl, hs2, rfl⟩
  have hs12 := hs1.trans hs2
  have hR2 : ∀ t, t < 5 → I2 258 (5 * s + t) = nI (A t).length ∧ (A t).length ≤ 3 := fun t ht => ⟨(hs12 258 _ (by omega)).trans (hR t ht).2.1, (hR t ht).1⟩
  have h0 := hR2 0 (by omega)
  have h1 := hR2 1 (by omega)
  have h3 := hR2 3 (by omega)
  have h4 := hR2 4 (by omega)
  rw [Nat.add_zero] at h0
  have tail : ∀ (u0 : Nat), u0 = (if hs (A 0) [120] = true then 2 else 1) → (stru (A 0) = 1 ∨ stru (A 0) = 2) → G_RF_fits l V (fun r I' J' P' => J = J' ∧ P = P' ∧ xSfo 4 I I' ∧ r = if fitr A = true then 1 else 0) 41 [(0, xq (some 250)), (1, xi (nI s)), (2, xi (nI (stru (A 0)))), (3, xi (if hs (A 0) [120] = true then 1 else 0))] [xi (nI u0), xi (nI (A 0).length)] I2 J P := by
    intro u0 hu0 hk
    have hfit : fitr A = (decide ((A 0).length = u0) && (!decide ((A 1).length = 0) && (if stru (A 0) = 2 then decide (0 < (A 3).length) else (hs (A 0) [120] || decide ((A 3).length + (A 4).length = 0))))) := by
      unfold fitr
      rw [hu0]
      rcases hk with hk | hk <;> simp [hk]
    have hu2 : u0 ≤ 2 := by rw [hu0]; split <;> omega
    refine b_RF_fits_41 hL ?_
    rw [nI_5m, show (1 : Int32) = nI 1 from rfl, show (3 : Int32) = nI 3 from rfl, show (4 : Int32) = nI 4 from rfl, nI_add, nI_add, nI_add, ncl (5 * s + 1), ncl (5 * s + 3), ncl (5 * s + 4), h1.1, h3.1, h4.1, nI_add]
    have q0 : fitr A = false → (J = J ∧ P = P ∧ xSfo 4 I I2 ∧ (0 : Int32) = if fitr A = true then nI 1 else 0) := fun h => ⟨rfl, rfl, hs12, by rw [h]; rfl⟩
    have q1 : fitr A = true → (J = J ∧ P = P ∧ xSfo 4 I I2 ∧ nI 1 = if fitr A = true then nI 1 else 0) := fun h => ⟨rfl, rfl, hs12, by rw [h]; rfl⟩
    refine (pk_eq (A 0).length u0 (fun z => ⟨pk_in (5 * s + 1) 65 (by omega), (pk_eq (A 1).length 0 (fun z1 => q0 (by rw [hfit, decide_eq_true z1, Bool.not_true, Bool.false_and, Bool.and_false])) (fun z1 => (pk_eq (stru (A 0)) 2 (fun z2 => ⟨pk_in (5 * s + 3) 65 (by omega), pk_le (A 3).length 0 (fun z3 => q0 (by rw [hfit, if_pos z2, decide_eq_false (show ¬ 0 < (A 3).length by omega), Bool.and_false, Bool.and_false])) (fun z3 => q1 (by rw [hfit, if_pos z2, decide_eq_true z, decide_eq_true (show 0 < (A 3).length by omega), decide_eq_false z1]; rfl))⟩) (fun z2 => ?_)).symm)).symm⟩) (fun z => q0 (by rw [hfit, decide_eq_false z, Bool.false_and]))).symm
    cases hx : hs (A 0) [120] with
    | true => exact ⟨fun _ => q1 (by rw [hfit, if_neg z2, decide_eq_true z, decide_eq_false z1, hx]; rfl), fun z => absurd z (by decide)⟩
    | false =>
      refine ⟨fun z => absurd rfl z, fun _ => ⟨pk_in (5 * s + 3) 65 (by omega), pk_in (5 * s + 4) 65 (by omega), (pk_eq ((A 3).length + (A 4).length) 0 (fun z3 => q1 (by rw [hfit, if_neg z2, decide_eq_true z, decide_eq_false z1, hx, decide_eq_true z3]; rfl)) (fun z3 => q0 (by rw [hfit, if_neg z2, decide_eq_true z, decide_eq_false z1, hx, decide_eq_false z3]; rfl))).symm⟩⟩
  rw [nI_5m, ncl (5 * s), h0.1]
  have next : (stru (A 0) = 1 ∨ stru (A 0) = 2) → (vp_in (nI (5 * s)) 65 ∧ (((if hs (A 0) [120] = true then (1 : Int32) else 0) = 0 → G_RF_fits l V (fun r I' J' P' => J = J' ∧ P = P' ∧ xSfo 4 I I' ∧ r = if fitr A = true then 1 else 0) 41 [(0, xq (some 250)), (1, xi (nI s)), (2, xi (nI (stru (A 0)))), (3, xi (if hs (A 0) [120] = true then 1 else 0))] [xi 1, xi (nI (A 0).length)] I2 J P) ∧ (¬ (if hs (A 0) [120] = true then (1 : Int32) else 0) = 0 → G_RF_fits l V (fun r I' J' P' => J = J' ∧ P = P' ∧ xSfo 4 I I' ∧ r = if fitr A = true then 1 else 0) 41 [(0, xq (some 250)), (1, xi (nI s)), (2, xi (nI (stru (A 0)))), (3, xi (if hs (A 0) [120] = true then 1 else 0))] [xi 2, xi (nI (A 0).length)] I2 J P))) := by
    intro hk
    refine ⟨pk_in (5 * s) 65 (by omega), fun z => tail 1 ?_ hk, fun z => tail 2 ?_ hk⟩
    · by_cases hx : hs (A 0) [120] = true
      · rw [if_pos hx] at z; exact absurd z (by decide)
      · rw [if_neg hx]
    · by_cases hx : hs (A 0) [120] = true
      · rw [if_pos hx]
      · rw [if_neg hx] at z; exact absurd rfl z
  refine pk_eq (stru (A 0)) 1 (fun z => next (Or.inl z)) (fun z => (pk_eq (stru (A 0)) 2 (fun z2 => next (Or.inr z2)) (fun z2 => ⟨rfl, rfl, hs12, ?_⟩)).symm)
  unfold fitr
  rw [decide_eq_false z, decide_eq_false z2]
  rfl
/-- nothing but the held text and the forms 3 and 4 changed -/
def xSj (I I' : xIt) : Prop := ∀ a j, ¬ (a = 250 ∧ j = 21) → a ≠ 254 → ¬ (a = 255 ∧ 24 ≤ j) → I' a j = I a j
theorem xSj.rfl {I : xIt} : xSj I I := fun _ _ _ _ _ => Eq.refl _
theorem xSj.trans {I I1 I2 : xIt} (h : xSj I I1) (h2 : xSj I1 I2) : xSj I I2 := fun a j h3 h4 h5 => (h2 a j h3 h4 h5).trans (h a j h3 h4 h5)
theorem xSj.fo {k : Nat} {I I1 : xIt} (hk : 3 ≤ k) (h : xSfo k I I1) : xSj I I1 := fun a j h3 h4 h5 => h a j (by omega)
theorem xSj.ms {I1 : xIt} (h : xSj I I1) (hm : xMs I 251 m e) : xMs I1 251 m e := fun j hj => ⟨(h 251 j (by omega) (by omega) (by omega)).trans (hm j hj).1, (hm j hj).2⟩
theorem xSj.vs {I1 : xIt} {L : List (Nat × Nat)} (h : xSj I I1) (hv : xVs I L) : xVs I1 L := fun i q hi => ⟨(h 252 i (by omega) (by omega) (by omega)).trans (hv i q hi).1, (h 253 i (by omega) (by omega) (by omega)).trans (hv i q hi).2⟩
def rcd (r : Nat ⊕ List Vl) : Nat := match r with
  | .inl c => c
  | .inr _ => 0
set_option maxRecDepth 20000 in
theorem c_RF_judgeValues {t : Nat} {L : List (Nat × Nat)} (hL : xL P) (hm : xMs I 251 m e) (he : e ≤ 160) (ht : t < 5) (h18 : I 250 18 = nI L.length) (hv : xVs I L) (hl : L.length ≤ 8) (hq : ∀ q ∈ L, q.1 ≤ q.2 ∧ q.2 ≤ e) (h30 : ∀ q ∈ L, q.2 - q.1 ≤ 30) : xMet l V y_RF_judgeValues 4 0 0 [xq (some 250), xi (nI t)] xS0 I J P (xPi (fun r I' J' P' => J = J' ∧ P = P' ∧ xSj I I' ∧ r = nI (rcd (rdv m t L [])))) := by
  have hb8 : ∀ j, j < e → m j < 256 := fun j hj => (hm j hj).2
  have outer : ∀ (n k : Nat) (acc : List Vl) (I1 : xIt), k + n = L.length → acc.length = k → (∀ (i : Nat) (q : Nat × Nat), i < k → L[i]? = some q → ∃ v, acc[i]? = some v ∧ val m t q = some v) → xSj I I1 → rdv m t L [] = rdv m t (L.drop k) acc → G_RF_judgeValues l V (fun r I' J' P' => J = J' ∧ P = P' ∧ xSj I I' ∧ r = nI (rcd (rdv m t L []))) 2 [(0, xq (some 250)), (1, xi (nI t)), (2, xi (nI k))] [] I1 J P := by
    intro n
    induction n with
    | zero =>
      intro k acc I1 hk hal hacc hs1 hx
      have h18' : I1 250 18 = nI L.length := (hs1 250 18 (by omega) (by omega) (by omega)).trans h18
      refine b_RF_judgeValues_2 hL (pk_le L.length k (fun _ => ⟨rfl, rfl, hs1, ?_⟩) (fun z => by omega) h18')
      rw [hx, List.drop_eq_nil_of_le (by omega)]
      rfl
    | succ n ih =>
      intro k acc I1 hk hal hacc hs1 hx
      have h18' : I1 250 18 = nI L.length := (hs1 250 18 (by omega) (by omega) (by omega)).trans h18
      have hkl : k < L.length := by omega
      have hgk := List.getElem?_eq_getElem hkl
      have hvk := hs1.vs hv k _ hgk
      have hqk := hq L[k] (List.getElem_mem hkl)
      have h30k := h30 L[k] (List.getElem_mem hkl)
      rw [List.drop_eq_getElem_cons hkl, rdv] at hx
      refine b_RF_judgeValues_2 hL (pk_le L.length k (fun z => by omega) (fun _ => ⟨pk_in k 8 (by omega), pk_in k 8 (by omega), ?_⟩) h18')
      rw [ncl k, hvk.1, hvk.2]
      refine ⟨_, c_RF_load hL (hs1.ms hm) he hqk (by omega), ?_⟩
      rintro I2 _ _ ⟨rfl, rfl, hs2, hg2⟩
      have hs12 : xSj I I2 := hs1.trans (fun a j h3 h4 h5 => hs2 a j h3 h4)
      have hsb : by8 (sub m L[k].1 L[k].2) := sub_by8 (fun j hj => hb8 j (by omega))
      refine ⟨_, c_RF_formOf (k := 3) hL hg2 (by rw [sub_len]; omega) hsb ht (by omega), ?_⟩
      rintro z2 I3 _ _ ⟨rfl, rfl, hs3, rfl, hf3⟩
      have hs13 : xSj I I3 := hs12.trans (xSj.fo (by omega) hs3)
      cases hfo : fo t (sub m L[k].1 L[k].2) with
      | none =>
        have hval : val m t L[k] = none := by rw [val_fo, hfo]; rfl
        rw [hval] at hx
        exact ⟨fun z => absurd z (by decide), fun _ => ⟨rfl, rfl, hs13, by rw [hx]; rfl⟩⟩
      | some p =>
        have hval : val m t L[k] = some (sub m L[k].1 L[k].2, p) := by rw [val_fo, hfo]; rfl
        have hp6 := fo_ok hsb hfo
        rw [hval] at hx
        simp only at hx
        have hf3 := hf3 p hfo
        refine ⟨fun _ => ?_, fun z => absurd (nI_pos' (n := p.length) (by omega)) z⟩
        rw [show oln (some p) = nI p.length from rfl]
        -- the earlier ones
        have inner : ∀ (i q : Nat) (I4 : xIt), q + i = k → xSj I I4 → xFm I4 3 p → (∀ j v, j < q → acc[j]? = some v → v.2 ≠ p) → G_RF_judgeValues l V (fun r I' J' P' => J = J' ∧ P = P' ∧ xSj I I' ∧ r = nI (rcd (rdv m t L []))) 43 [(0, xq (some 250)), (1, xi (nI t)), (2, xi (nI k)), (3, xi (nI p.length)), (4, xi (nI q))] [] I4 J P := by
          intro i
          induction i with
          | zero =>
            intro q I4 hqk' hs4 hf4 hno
            refine b_RF_judgeValues_43 hL (pk_le k q (fun _ => ?_) (fun z => by omega))
            rw [nI_1]
            have hh : ¬ hs acc p = true := fun h => by
              obtain ⟨v, hv', hvp⟩ := List.mem_map.mp (hs_mem.mp h)
              obtain ⟨j, hj⟩ := List.getElem?_of_mem hv'
              exact hno j v (by have := (List.getElem?_eq_some_iff.mp hj).1; omega) hj hvp
            rw [if_neg hh] at hx
            refine ih (k + 1) _ I4 (by omega) (by simp; omega) (fun j q' hj hq' => ?_) hs4 hx
            by_cases hjk : j = k
            · subst hjk
              rw [hgk] at hq'
              cases hq'
              exact ⟨_, by rw [List.getElem?_append_right (by omega)]; simp [hal], hval⟩
            · obtain ⟨v, h1, h2⟩ := hacc j q' (by omega) hq'
              exact ⟨v, by rw [List.getElem?_append_left (by omega)]; exact h1, h2⟩
          | succ i ih2 =>
            intro q I4 hqk' hs4 hf4 hno
            have hql : q < L.length := by omega
            have hgq := List.getElem?_eq_getElem hql
            have hvq := hs4.vs hv q _ hgq
            have hqq := hq L[q] (List.getElem_mem hql)
            have h30q := h30 L[q] (List.getElem_mem hql)
            obtain ⟨w, hw1, hw2⟩ := hacc q _ (by omega) hgq
            refine b_RF_judgeValues_43 hL (pk_le k q (fun z => by omega) (fun _ => ⟨pk_in q 8 (by omega), pk_in q 8 (by omega), ?_⟩))
            rw [ncl q, hvq.1, hvq.2]
            refine ⟨_, c_RF_load hL (hs4.ms hm) he hqq (by omega), ?_⟩
            rintro I5 _ _ ⟨rfl, rfl, hs5, hg5⟩
            have hsb5 : by8 (sub m L[q].1 L[q].2) := sub_by8 (fun j hj => hb8 j (by omega))
            refine ⟨_, c_RF_formOf (k := 4) hL hg5 (by rw [sub_len]; omega) hsb5 ht (by omega), ?_⟩
            rintro z6 I6 _ _ ⟨rfl, rfl, hs6, rfl, hf6⟩
            have hs46 : xSj I I6 := (hs4.trans (fun a j h3 h4 h5 => hs5 a j h3 h4)).trans (xSj.fo (by omega) hs6)
            rw [val_fo] at hw2
            obtain ⟨p', hfo', hwe⟩ := Option.map_eq_some_iff.mp hw2
            have hp6' := fo_ok hsb5 hfo'
            have hf6 := hf6 p' hfo'
            have hf36 : xFm I6 3 p := hf4.far (fun j h1 h2 => (hs6 255 j (by omega)).trans (hs5 255 j (by omega) (by omega)))
            rw [hfo', show oln (some p') = nI p'.length from rfl]
            refine ⟨_, c_RF_equalForms (a := 3) (b := 4) hL hf36 hf6 (by omega) (by omega) hp6.1 hp6'.1 hp6.2.1 hp6'.2.1, ?_⟩
            rintro z7 I7 _ _ ⟨rfl, rfl, rfl, rfl⟩
            have hw22 : w.2 = p' := by rw [← hwe]
            by_cases hpp : p = p'
            · rw [if_pos hpp]
              refine ⟨fun z => absurd z (by decide), fun _ => ⟨rfl, rfl, hs46, ?_⟩⟩
              rw [if_pos (hs_mem.mpr (List.mem_map.mpr ⟨w, List.mem_of_getElem? hw1, by rw [hw22, hpp]⟩))] at hx
              rw [hx]
              rfl
            · rw [if_neg hpp, nI_1]
              refine ⟨fun _ => ih2 (q + 1) I6 (by omega) hs46 hf36 (fun j v hj hv' => ?_), fun z => absurd rfl z⟩
              by_cases hjq : j = q
              · subst hjq
                rw [hw1] at hv'
                cases hv'
                rw [hw22]
                exact fun h => hpp h.symm
              · exact hno j v (by omega) hv'
        exact inner k 0 I3 (by omega) hs13 hf3 (fun j v hj => by omega)
  exact e_RF_judgeValues (b_RF_judgeValues_0 hL (outer L.length 0 [] I (by omega) rfl (fun i q hi => by omega) xSj.rfl (by simp)))
set_option maxRecDepth 20000 in
theorem c_RF_appendValues {t s : Nat} {L : List (Nat × Nat)} {R S : List Vl} (hL : xL P) (hm : xMs I 251 m e) (he : e ≤ 160) (ht : t < 5) (hs13 : s < 13) (h18 : I 250 18 = nI L.length) (hv : xVs I L) (hl : L.length ≤ 8) (hq : ∀ q ∈ L, q.1 ≤ q.2 ∧ q.2 ≤ e) (h30 : ∀ q ∈ L, q.2 - q.1 ≤ 30) (hR : xRr I (5 * s + t) R) (hS : S.length = L.length) (hval : ∀ (i : Nat) (q : Nat × Nat), L[i]? = some q → ∃ v, S[i]? = some v ∧ val m t q = some v) (h3 : R.length + S.length ≤ 3) : xMet l V y_RF_appendValues 4 0 0 [xq (some 250), xi (nI s), xi (nI t)] xS0 I J P (xPv (fun I' J' P' => J = J' ∧ P = P' ∧ (∀ a j, ¬ cr (5 * s + t) a j → ¬ (a = 250 ∧ j = 21) → a ≠ 254 → ¬ (a = 255 ∧ 24 ≤ j) → I' a j = I a j) ∧ xRr I' (5 * s + t) (R ++ S))) := by
  have hb8 : ∀ j, j < e → m j < 256 := fun j hj => (hm j hj).2
  have loop : ∀ (n k : Nat) (I1 : xIt), k + n = L.length → (∀ a j, ¬ cr (5 * s + t) a j → ¬ (a = 250 ∧ j = 21) → a ≠ 254 → ¬ (a = 255 ∧ 24 ≤ j) → I1 a j = I a j) → xRr I1 (5 * s + t) (R ++ S.take k) → G_RF_appendValues l V (fun I' J' P' => J = J' ∧ P = P' ∧ (∀ a j, ¬ cr (5 * s + t) a j → ¬ (a = 250 ∧ j = 21) → a ≠ 254 → ¬ (a = 255 ∧ 24 ≤ j) → I' a j = I a j) ∧ xRr I' (5 * s + t) (R ++ S)) 2 [(0, xq (some 250)), (1, xi (nI s)), (2, xi (nI t)), (3, xi (nI k))] [] I1 J P := by
    intro n
    induction n with
    | zero =>
      intro k I1 hk hI hr
      have h18' : I1 250 18 = nI L.length := (hI 250 18 (by unfold cr; omega) (by omega) (by omega) (by omega)).trans h18
      rw [List.take_of_length_le (by omega)] at hr
      exact b_RF_appendValues_2 hL (pk_le L.length k (fun _ => ⟨rfl, rfl, hI, hr⟩) (fun z => by omega) h18')
    | succ n ih =>
      intro k I1 hk hI hr
      have h18' : I1 250 18 = nI L.length := (hI 250 18 (by unfold cr; omega) (by omega) (by omega) (by omega)).trans h18
      have hkl : k < L.length := by omega
      have hgk := List.getElem?_eq_getElem hkl
      have hvk := hv k _ hgk
      have hqk := hq L[k] (List.getElem_mem hkl)
      have h30k := h30 L[k] (List.getElem_mem hkl)
      obtain ⟨v, hv1, hv2⟩ := hval k _ hgk
      have hm1 : xMs I1 251 m e := fun j hj => ⟨(hI 251 j (by unfold cr; omega) (by omega) (by omega) (by omega)).trans (hm j hj).1, (hm j hj).2⟩
      refine b_RF_appendValues_2 hL (pk_le L.length k (fun z => by omega) (fun _ => ⟨pk_in k 8 (by omega), pk_in k 8 (by omega), ?_⟩) h18')
      rw [ncl k, hI 252 k (by unfold cr; omega) (by omega) (by omega) (by omega), hI 253 k (by unfold cr; omega) (by omega) (by omega) (by omega), hvk.1, hvk.2]
      refine ⟨_, c_RF_load hL hm1 he hqk (by omega), ?_⟩
      rintro I2 _ _ ⟨rfl, rfl, hs2, hg2⟩
      have hsb : by8 (sub m L[k].1 L[k].2) := sub_by8 (fun j hj => hb8 j (by omega))
      refine ⟨_, c_RF_formOf (k := 3) hL hg2 (by rw [sub_len]; omega) hsb ht (by omega), ?_⟩
      rintro z2 I3 _ _ ⟨rfl, rfl, hs3, rfl, hf3⟩
      rw [val_fo] at hv2
      obtain ⟨p, hfo, hve⟩ := Option.map_eq_some_iff.mp hv2
      have hp6 := fo_ok hsb hfo
      have hf3 := hf3 p hfo
      have hr3 : xRr I3 (5 * s + t) (R ++ S.take k) := hr.keep (fun a j hc => (hs3 a j (by unfold cr at hc; omega)).trans (hs2 a j (by unfold cr at hc; omega) (by unfold cr at hc; omega)))
      rw [hfo, show oln (some p) = nI p.length from rfl]
      refine ⟨_, c_RF_append (k := 3) hL hr3 (hs3.gv hg2) hf3 hs13 ht (by omega) hp6.2.2.1 hp6.1 (by rw [List.length_append, List.length_take]; omega), ?_⟩
      rintro I4 _ _ ⟨rfl, rfl, hs4, hr4⟩
      rw [nI_1]
      refine ih (k + 1) I4 (by omega) (fun a j h1 h2 h3 h4 => (hs4 a j h1).trans ((hs3 a j (by omega)).trans ((hs2 a j h2 h3).trans (hI a j h1 h2 h3 h4)))) ?_
      rw [List.take_succ, hv1, ← List.append_assoc]
      rw [hve] at hr4
      exact hr4
  exact e_RF_appendValues (b_RF_appendValues_0 hL (loop L.length 0 I (by omega) (fun _ _ _ _ _ _ => rfl) (by simpa using hR)))
end XRJ

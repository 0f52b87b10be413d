/-! the reference: parts and the schema -/
/-- how many values are of none of the three classes -/
def oth (R : List Vl) : Nat := R.countP (fun x => !(x.2 == [103]) && (!(x.2 == [104]) && !(x.2 == [120])))
theorem hs_not {R : List Vl} {q : List Nat} (h : q ∉ R.map (fun v => v.2)) : hs R q = false := by
  cases hb : hs R q with
  | false => rfl
  | true => exact absurd (hs_mem.mp hb) h
theorem cls_len : ∀ {R : List Vl}, (R.map (fun v => v.2)).Nodup → R.length = (if hs R [103] = true then 1 else 0) + (if hs R [104] = true then 1 else 0) + (if hs R [120] = true then 1 else 0) + oth R := by
  intro R
  induction R with
  | nil => intro _; rfl
  | cons v R ih =>
    intro h
    rw [List.map_cons, List.nodup_cons] at h
    have h1 := ih h.2
    have h2 := hs_not h.1
    have ho : oth (v :: R) = oth R + (if (!(v.2 == [103]) && (!(v.2 == [104]) && !(v.2 == [120]))) = true then 1 else 0) := by
      unfold oth
      rw [List.countP_cons]
    rw [List.length_cons, h1, ho, hs_cons, hs_cons, hs_cons]
    by_cases c1 : v.2 = [103]
    · rw [c1] at h2 ⊢
      rw [h2]
      simp
      omega
    by_cases c2 : v.2 = [104]
    · rw [c2] at h2 ⊢
      rw [h2]
      simp
      omega
    by_cases c3 : v.2 = [120]
    · rw [c3] at h2 ⊢
      rw [h2]
      simp
      omega
    · have e1 : (v.2 == [103]) = false := by simp [c1]
      have e2 : (v.2 == [104]) = false := by simp [c2]
      have e3 : (v.2 == [120]) = false := by simp [c3]
      rw [e1, e2, e3]
      simp
      omega
theorem hso_oth {R : List Vl} : hso R = decide (0 < oth R) := by
  unfold hso oth
  rw [Bool.eq_iff_iff, List.any_eq_true, decide_eq_true_iff, List.countP_pos_iff]
section XRF
variable {l : Launch} {V : xV} {I : xIt} {J : xJt} {P : xPt} {A : Nat → List Vl}
theorem pix_neg {o : Option Nat} (h : ∀ q, o = some q → q < 1000) : (pix o < 0) ↔ o = none := by
  cases o with
  | none => simp [pix]
  | some q =>
    have := h q rfl
    constructor
    · intro z; exact absurd z (nI_pos (by omega))
    · intro z; cases z
theorem plc_lt {R : List Vl} {p : List Nat} {q : Nat} (h : plc R p = some q) : q < R.length := (List.findIdx?_eq_some_iff_findIdx_eq.mp h).1
theorem plc_some {R : List Vl} {p : List Nat} : hs R p = true ↔ ∃ q, plc R p = some q := by
  rw [← plc_hs, Option.isSome_iff_exists]
set_option maxRecDepth 20000 in
theorem c_RF_setPart {e : Nat} {p : Nat × List Nat × List Nat} (hL : xL P) (he : e < 13) (h256 : I 256 0 = nI p.1) (h257 : I 257 0 = nI p.2.2.length) (hf : xFm I 0 p.2.2) (hp6 : p.2.2.length ≤ 6) : xMet l V y_RF_setPart 1 0 0 [xq (some 250), xi (nI e)] xS0 I J P (xPv (fun I' J' P' => J = J' ∧ P = P' ∧ (∀ a j, ¬ ((a = 264 ∨ a = 265) ∧ j = e) → ¬ (a = 266 ∧ 6 * e ≤ j ∧ j < 6 * e + 6) → I' a j = I a j) ∧ I' 264 e = nI p.1 ∧ I' 265 e = nI p.2.2.length ∧ xBy I' 266 (6 * e) p.2.2)) := by
  have loop : ∀ (n j : Nat) (I1 : xIt), j + n = p.2.2.length → (∀ a i, ¬ ((a = 264 ∨ a = 265) ∧ i = e) → ¬ (a = 266 ∧ 6 * e ≤ i ∧ i < 6 * e + 6) → I1 a i = I a i) → I1 264 e = nI p.1 → I1 265 e = nI p.2.2.length → xBy I1 266 (6 * e) (p.2.2.take j) → G_RF_setPart l V (fun I' J' P' => J = J' ∧ P = P' ∧ (∀ a j, ¬ ((a = 264 ∨ a = 265) ∧ j = e) → ¬ (a = 266 ∧ 6 * e ≤ j ∧ j < 6 * e + 6) → I' a j = I a j) ∧ I' 264 e = nI p.1 ∧ I' 265 e = nI p.2.2.length ∧ xBy I' 266 (6 * e) p.2.2) 26 [(0, xq (some 250)), (1, xi (nI e)), (2, xi (nI j))] [] I1 J P := by
    intro n
    induction n with
    | zero =>
      intro j I1 hj hI h1 h2 hb
      rw [List.take_of_length_le (by omega)] at hb
      exact b_RF_setPart_26 hL (pk_le p.2.2.length j (fun _ => ⟨rfl, rfl, hI, h1, h2, hb⟩) (fun z => by omega) ((hI 257 0 (by omega) (by omega)).trans h257))
    | succ n ih =>
      intro j I1 hj hI h1 h2 hb
      have hjl : j < p.2.2.length := by omega
      have hfj := hf j _ (List.getElem?_eq_getElem hjl)
      rw [show 8 * 0 + j = j by omega] at hfj
      refine b_RF_setPart_26 hL (pk_le p.2.2.length j (fun z => by omega) (fun _ => ?_) ((hI 257 0 (by omega) (by omega)).trans h257))
      rw [nI_6m, nI_add, nI_1, ncl j, ncl (6 * e + j), hI 255 j (by omega) (by omega), hfj]
      refine ⟨pk_in j 40 (by omega), pk_in (6 * e + j) 78 (by omega), ih (j + 1) _ (by omega) (fun a i h3 h4 => (xu_other (by omega)).trans (hI a i h3 h4)) ((xu_other (by omega)).trans h1) ((xu_other (by omega)).trans h2) (fun i b hi => ?_)⟩
      rw [List.take_succ, List.getElem?_eq_getElem hjl] at hi
      by_cases hij : i < j
      · rw [List.getElem?_append_left (by rw [List.length_take]; omega)] at hi
        rw [xu_other (by omega)]; exact hb i b hi
      · rw [List.getElem?_append_right (by rw [List.length_take]; omega)] at hi
        have h8 : i = j := by
          have := (List.getElem?_eq_some_iff.mp hi).1
          simp at this
          omega
        subst h8
        rw [List.length_take, Nat.min_eq_left (by omega), Nat.sub_self] at hi
        simp at hi
        subst hi
        rw [xu_at]
  refine e_RF_setPart (b_RF_setPart_0 hL ?_)
  rw [ncl e, h256, h257]
  refine ⟨pk_in e 13 he, pk_in e 13 he, loop p.2.2.length 0 _ (by omega) (fun a i h3 h4 => (xu_other (by omega)).trans (xu_other (by omega))) ?_ xu_at (fun i b hi => by simp at hi)⟩
  rw [xu_other (by omega), xu_at]
set_option maxRecDepth 20000 in
theorem c_RF_hasPart {e : Nat} {x : Ent} (hL : xL P) (he : e < 13) (hx : xRe I e x) (hx5 : x.2.1 < 5) (h8 : by8 x.2.2.1) (hv : ∀ v ∈ x.1 x.2.1, vk x.2.1 v) : xMet l V y_RF_hasPart 2 0 0 [xq (some 250), xi (nI e)] xS0 I J P (xPi (fun r I' J' P' => J = J' ∧ P = P' ∧ xSfo 3 I I' ∧ r = if hs (x.1 x.2.1) x.2.2.1 = true then 1 else 0)) := by
  have hx6 := hx.2.2.2.2.1
  have loop : ∀ (n j : Nat) (I1 : xIt), j + n = x.2.2.1.length → xSfo 3 I I1 → xFm I1 3 (x.2.2.1.take j) → G_RF_hasPart l V (fun r I' J' P' => J = J' ∧ P = P' ∧ xSfo 3 I I' ∧ r = if hs (x.1 x.2.1) x.2.2.1 = true then 1 else 0) 2 [(0, xq (some 250)), (1, xi (nI e)), (2, xi (nI j))] [] I1 J P := by
    intro n
    induction n with
    | zero =>
      intro j I1 hj hs1 hf
      rw [List.take_of_length_le (by omega)] at hf
      have hx1 : xRe I1 e x := hx.keep (fun a i hc => hs1 a i (by unfold ce at hc; omega))
      refine b_RF_hasPart_2 hL ?_
      rw [ncl e, hx1.2.2.1, hx1.2.2.2.1]
      refine ⟨pk_in e 13 he, pk_le x.2.2.1.length j (fun _ => ⟨pk_in e 13 he, pk_in e 13 he, _, c_RF_placeOf (k := 3) hL (hx1.1 x.2.1 hx5) hf he hx5 (by omega) hx6 h8 (fun v hv' => (vk_pl (hv v hv')).2), ?_⟩) (fun z => by omega)⟩
      rintro r I2 _ _ ⟨rfl, rfl, rfl, rfl⟩
      have hp3 := (hx1.1 x.2.1 hx5).1
      have hneg := pix_neg (o := plc (x.1 x.2.1) x.2.2.1) (fun q hq => by have := plc_lt hq; omega)
      refine ⟨fun z => ⟨rfl, rfl, hs1, ?_⟩, fun z => ⟨rfl, rfl, hs1, ?_⟩⟩
      · rw [if_neg (fun h => by obtain ⟨q, hq⟩ := plc_some.mp h; rw [hneg.mp z] at hq; cases hq)]
      · rw [if_pos (plc_some.mpr (by
          cases hpl : plc (x.1 x.2.1) x.2.2.1 with
          | none => exact absurd (hneg.mpr hpl) z
          | some q => exact ⟨q, rfl⟩))]
    | succ n ih =>
      intro j I1 hj hs1 hf
      have hjl : j < x.2.2.1.length := by omega
      have hx1 : xRe I1 e x := hx.keep (fun a i hc => hs1 a i (by unfold ce at hc; omega))
      refine b_RF_hasPart_2 hL ?_
      rw [ncl e, hx1.2.2.2.1, nI_6m, nI_add, show (24 : Int32) = nI 24 from rfl, nI_add, nI_1, ncl (6 * e + j), ncl (24 + j), hx1.2.2.2.2.2 j _ (List.getElem?_eq_getElem hjl)]
      refine ⟨pk_in e 13 he, pk_le x.2.2.1.length j (fun z => by omega) (fun _ => ⟨pk_in (6 * e + j) 78 (by omega), pk_in (24 + j) 40 (by omega), ih (j + 1) _ (by omega) (fun a i h3 => (xu_other (by omega)).trans (hs1 a i h3)) (fun i b hi => ?_)⟩)⟩
      rw [List.take_succ, List.getElem?_eq_getElem hjl] at hi
      by_cases hij : i < j
      · rw [List.getElem?_append_left (by rw [List.length_take]; omega)] at hi
        rw [xu_other (by omega)]; exact hf i b hi
      · rw [List.getElem?_append_right (by rw [List.length_take]; omega)] at hi
        have h8 : i = j := by
          have := (List.getElem?_eq_some_iff.mp hi).1
          simp at this
          omega
        subst h8
        rw [List.length_take, Nat.min_eq_left (by omega), Nat.sub_self] at hi
        simp at hi
        subst hi
        rw [xu_at]
  exact e_RF_hasPart (b_RF_hasPart_0 hL (loop x.2.2.1.length 0 I (by omega) xSfo.rfl (fun i b hi => by simp at hi)))
set_option maxRecDepth 20000 in
theorem c_RF_inClass {e c : Nat} {R : List Vl} (hL : xL P) (he : e < 13) (hc : c < 256) (hR : xRr I (5 * e) R) (h8 : ∀ v ∈ R, by8 v.2) : xMet l V y_RF_inClass 2 0 0 [xq (some 250), xi (nI e), xi (nI c)] xS0 I J P (xPi (fun r I' J' P' => J = J' ∧ P = P' ∧ xSfo 4 I I' ∧ r = if hs R [c] = true then 1 else 0)) := by
  have hs1 : xSfo 4 I (xu I 255 32 (nI c)) := fun a i h3 => xu_other (by omega)
  have hR1 : xRr (xu I 255 32 (nI c)) (5 * e + 0) R := hR.keep (fun a i hc => hs1 a i (by unfold cr at hc; omega))
  have hf : xFm (xu I 255 32 (nI c)) 4 [c] := by
    intro i b hi
    have hi0 : i = 0 := by
      have := (List.getElem?_eq_some_iff.mp hi).1
      simp at this
      omega
    subst hi0
    simp at hi
    subst hi
    exact xu_at
  refine e_RF_inClass (b_RF_inClass_0 hL ⟨_, c_RF_placeOf (t := 0) (k := 4) (p := [c]) hL hR1 hf he (by omega) (by omega) (by simp) (fun b hb => by simp at hb; omega) h8, ?_⟩)
  rintro r I2 _ _ ⟨rfl, rfl, rfl, rfl⟩
  have hp3 := hR.1
  have hneg := pix_neg (o := plc R [c]) (fun q hq => by have := plc_lt hq; omega)
  refine ⟨fun z => ⟨rfl, rfl, hs1, ?_⟩, fun z => ⟨rfl, rfl, hs1, ?_⟩⟩
  · rw [if_neg (fun h => by obtain ⟨q, hq⟩ := plc_some.mp h; rw [hneg.mp z] at hq; cases hq)]
  · rw [if_pos (plc_some.mpr (by
      cases hpl : plc R [c] with
      | none => exact absurd (hneg.mpr hpl) z
      | some q => exact ⟨q, rfl⟩))]
set_option maxRecDepth 20000 in
theorem c_RF_structural {e : Nat} {R : List Vl} (hL : xL P) (he : e < 13) (hR : xRr I (5 * e) R) (h8 : ∀ v ∈ R, by8 v.2) : xMet l V y_RF_structural 3 0 0 [xq (some 250), xi (nI e)] xS0 I J P (xPi (fun r I' J' P' => J = J' ∧ P = P' ∧ xSfo 4 I I' ∧ r = nI (stru R))) := by
  refine e_RF_structural (b_RF_structural_0 hL ⟨_, c_RF_inClass (c := 103) hL he (by omega) hR h8, ?_⟩)
  rintro r1 I1 _ _ ⟨rfl, rfl, hs1, rfl⟩
  have hR1 : xRr I1 (5 * e) R := hR.keep (fun a i hc => hs1 a i (by unfold cr at hc; omega))
  by_cases hg : hs R [103] = true
  · rw [if_pos hg]
    refine ⟨fun z => absurd z (by decide), fun _ => ⟨_, c_RF_inClass (c := 104) hL he (by omega) hR1 h8, ?_⟩⟩
    rintro r2 I2 _ _ ⟨rfl, rfl, hs2, rfl⟩
    by_cases hh : hs R [104] = true
    · rw [if_pos hh]
      exact ⟨fun z => absurd z (by decide), fun _ => ⟨rfl, rfl, hs1.trans hs2, by simp [stru, hg, hh]; rfl⟩⟩
    · rw [if_neg hh]
      exact ⟨fun _ => ⟨rfl, rfl, hs1.trans hs2, by simp [stru, hg, hh]; rfl⟩, fun z => absurd rfl z⟩
  · rw [if_neg hg]
    refine ⟨fun _ => ⟨_, c_RF_inClass (c := 104) hL he (by omega) hR1 h8, ?_⟩, fun z => absurd rfl z⟩
    rintro r2 I2 _ _ ⟨rfl, rfl, hs2, rfl⟩
    by_cases hh : hs R [104] = true
    · rw [if_pos hh]
      exact ⟨fun z => absurd z (by decide), fun _ => ⟨rfl, rfl, hs1.trans hs2, by simp [stru, hg, hh]; rfl⟩⟩
    · rw [if_neg hh]
      exact ⟨fun _ => ⟨rfl, rfl, hs1.trans hs2, by simp [stru, hg, hh]; rfl⟩, fun z => absurd rfl z⟩
/-- the schema, as the reference counts -/
def fitr (A : Nat → List Vl) : Bool := (decide (stru (A 0) = 1) || decide (stru (A 0) = 2)) && (decide ((A 0).length = if hs (A 0) [120] = true then 2 else 1) && (!decide ((A 1).length = 0) && (if stru (A 0) = 2 then decide (0 < (A 3).length) else (hs (A 0) [120] || decide ((A 3).length + (A 4).length = 0)))))
theorem fitr_eq (hn : ((A 0).map (fun v => v.2)).Nodup) : fitr A = fitb A := by
  have h1 := cls_len hn
  have h2 := hso_oth (R := A 0)
  unfold fitr fitb fit6 stru
  rw [h2]
  generalize oth (A 0) = o at h1
  generalize (A 0).length = n0 at h1
  generalize (A 1).length = n1
  generalize (A 3).length = n3
  generalize (A 4).length = n4
  generalize hs (A 0) [103] = g at h1 ⊢
  generalize hs (A 0) [104] = h at h1 ⊢
  generalize hs (A 0) [120] = x at h1 ⊢
  clear h2 hn
  cases g <;> cases h <;> cases x <;> simp at h1 ⊢ <;> subst h1 <;> cases o <;> cases n1 <;> cases n3 <;> cases n4 <;> simp
end XRF

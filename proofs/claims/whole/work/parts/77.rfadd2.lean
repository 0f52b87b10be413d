/-! the reference: attributes of a new entry -/
theorem dF_no {ks as : List Nat} {a k : Nat} (h1 : a = 250 → k ∉ ks) (h2 : a ∉ as) : dF ks as a k = false := by
  unfold dF
  rw [Bool.or_eq_false_iff, Bool.and_eq_false_iff]
  constructor
  · by_cases ha : a = 250
    · right
      cases hc : ks.contains k with
      | false => rfl
      | true => exact absurd (by simpa using hc) (h1 ha)
    · left
      simp [ha]
  · cases hc : as.contains a with
    | false => rfl
    | true => exact absurd (by simpa using hc) h2
/-- nothing of the tree, of the name or of the request changed -/
def xS12 (I I' : xIt) : Prop := ∀ a j, a < 250 ∨ a = 251 ∨ a = 256 ∨ a = 257 ∨ 263 ≤ a ∨ (a = 255 ∧ j < 24) ∨ (a = 258 ∧ j < 60) ∨ ((a = 259 ∨ a = 261) ∧ j < 180) ∨ ((a = 260 ∨ a = 262) ∧ j < 1080) ∨ (a = 250 ∧ (j ≤ 2 ∨ (7 ≤ j ∧ j ≤ 13) ∨ j = 16 ∨ j = 17 ∨ 22 ≤ j)) → I' a j = I a j
theorem xS12.rfl {I : xIt} : xS12 I I := fun _ _ _ => Eq.refl _
theorem xS12.trans {I I1 I2 : xIt} (h : xS12 I I1) (h2 : xS12 I1 I2) : xS12 I I2 := fun a j h3 => (h2 a j h3).trans (h a j h3)
theorem xS12.sm {I I1 : xIt} {ks as : List Nat} (h : xsm (dF ks as) I I1) (hk : ks.all (fun k => [3, 4, 5, 6, 14, 15, 18, 21].contains k) = true) (ha : as.all (fun a => [252, 253, 254].contains a) = true) : xS12 I I1 := by
  have h2 := h.F hk ha
  intro a j hc
  refine h2 a j (dF_no (fun h250 => ?_) ?_)
  · simp; omega
  · simp; omega
theorem xS12.sj {I I1 : xIt} (h : xSj I I1) : xS12 I I1 := fun a j hc => h a j (by omega) (by omega) (by omega)
theorem xS12.put {I I1 : xIt} {j : Nat} {v : Int32} (h : xS12 I I1) (hj : 3 ≤ j ∧ j ≤ 6) : xS12 I (xu I1 250 j v) := fun a i hc => (xu_other (by omega)).trans (h a i hc)
section XRA
variable {l : Launch} {V : xV} {I : xIt} {J : xJt} {P : xPt} {m : Nat → Nat} {e : Nat} {D : List Ent}
theorem xMs.le {a e' : Nat} (h : xMs I a m e) (he : e' ≤ e) : xMs I a m e' := fun j hj => h j (by omega)
theorem xS12.ms {I1 : xIt} (h : xS12 I I1) (hm : xMs I 251 m e) : xMs I1 251 m e := fun j hj => ⟨(h 251 j (by omega)).trans (hm j hj).1, (hm j hj).2⟩
def Qaa (m : Nat → Nat) (t : List ((Nat × Nat) × List (Nat × Nat))) (I : xIt) (J : xJt) (P : xPt) : Int32 → xIt → xJt → xPt → Prop := fun r I' J' P' => J = J' ∧ P = P' ∧ xS12 I I' ∧ match adv m t (fun _ => []) with
  | .inl c => r = nI c
  | .inr A => r = 0 ∧ ∀ t, t < 5 → xRr I' (5 * 12 + t) (A t)
set_option maxRecDepth 20000 in
theorem c_RF_addAttributes {p0 : Nat} {t0 : List ((Nat × Nat) × List (Nat × Nat))} (hL : xL P) (hm : xMs I 251 m e) (he : e ≤ 153) (hp0 : p0 ≤ e) (h16 : I 250 16 = nI p0) (h17 : I 250 17 = nI e) (hal : al m 160 p0 e = some t0) : xMet l V y_RF_addAttributes 5 0 0 [xq (some 250)] xS0 I J P (xPi (Qaa m t0 I J P)) := by
  have hb8 : ∀ j, j < e → m j < 256 := fun j hj => (hm j hj).2
  have loop : ∀ (n p : Nat) (tr : List ((Nat × Nat) × List (Nat × Nat))) (A : Nat → List Vl) (I1 : xIt) (v3 : Int32), p ≤ e → al m n p e = some tr → xS12 I I1 → (∀ t, t < 5 → wfr t (A t)) → (∀ t, t < 5 → xRr I1 (5 * 12 + t) (A t)) → adv m t0 (fun _ => []) = adv m tr A → G_RF_addAttributes l V (Qaa m t0 I J P) 33 [(0, xq (some 250)), (1, xi (nI p)), (2, xi (nI e)), (3, xi v3)] [] I1 J P := by
    intro n
    induction n with
    | zero =>
      intro p tr A I1 v3 hpe ha hs hA hR hx
      rw [al] at ha
      by_cases hep : e ≤ p
      · rw [if_pos hep] at ha
        cases ha
        refine b_RF_addAttributes_33 hL (pk_le e p (fun _ => ⟨rfl, rfl, hs, ?_⟩) (fun z => by omega))
        rw [hx]
        exact ⟨rfl, hR⟩
      · rw [if_neg hep] at ha; cases ha
    | succ n ih =>
      intro p tr A I1 v3 hpe ha hs hA hR hx
      rw [al] at ha
      by_cases hep : e ≤ p
      · rw [if_pos hep] at ha
        cases ha
        refine b_RF_addAttributes_33 hL (pk_le e p (fun _ => ⟨rfl, rfl, hs, ?_⟩) (fun z => by omega))
        rw [hx]
        exact ⟨rfl, hR⟩
      rw [if_neg hep] at ha
      obtain ⟨s, hsq, ha⟩ := Option.bind_eq_some_iff.mp ha
      obtain ⟨B, hB, ha⟩ := Option.bind_eq_some_iff.mp ha
      obtain ⟨W, hW, ha⟩ := Option.bind_eq_some_iff.mp ha
      have b1 := tk_bd hsq
      have b2 := tk_bd hB
      have b3 := tk_bd hW
      by_cases hWs : ¬ W.2 = s.2
      · rw [if_neg hWs] at ha; cases ha
      have hWs : W.2 = s.2 := Classical.not_not.mp hWs
      rw [if_pos hWs] at ha
      by_cases hW12 : W.1 = W.2
      · rw [if_pos hW12] at ha; cases ha
      rw [if_neg hW12] at ha
      obtain ⟨L, hLv, ha⟩ := Option.bind_eq_some_iff.mp ha
      obtain ⟨r, hr, rfl⟩ := Option.map_eq_some_iff.mp ha
      have hvo := vl_ok _ _ _ _ hLv
      have h30 := vl_30 _ _ _ _ hLv
      rw [adv] at hx
      refine b_RF_addAttributes_33 hL (pk_le e p (fun z => by omega) (fun _ => ⟨_, c_RF_take (w := 48) (most := 255) hL ((hs.put (j := 6) (v := nI p) (by omega)).ms hm) (by omega) (by omega) (by omega) (by omega) xu_at, ?_⟩))
      rintro z1 I2 _ _ ⟨rfl, rfl, hs2, hm2⟩
      rw [hsq] at hm2
      obtain ⟨rfl, h24, h25, h26⟩ := hm2
      have hS2 : xS12 I I2 := (hs.put (j := 6) (v := nI p) (by omega)).trans (xS12.sm (hs2.K (ks := [3, 4, 5, 6]) (as := []) (by decide)) (by decide) (by decide))
      refine ⟨fun z => absurd z (by decide), fun _ => ?_⟩
      rw [h26]
      refine b_RF_addAttributes_66 hL ⟨_, c_RF_textB (p := s.1) (e := s.2) hL (((hS2.put (j := 6) (v := I2 250 4) (by omega)).ms hm).le (by omega)) (by omega) (by omega) (by rw [xu_at]; exact h24), ?_⟩
      rintro z3 I3 _ _ ⟨rfl, rfl, hs3, hm3⟩
      rw [hB] at hm3
      obtain ⟨rfl, h314, h315, h36⟩ := hm3
      have hS3 : xS12 I I3 := (hS2.put (j := 6) (v := I2 250 4) (by omega)).trans (xS12.sm hs3 (by decide) (by decide))
      refine ⟨fun z => absurd z (by decide), fun _ => ⟨_, c_RF_take (w := 49) (most := 255) (p := B.2) (e := s.2) hL ((hS3.ms hm).le (by omega)) (by omega) (by omega) (by omega) (by omega) h36, ?_⟩⟩
      rintro z4 I4 _ _ ⟨rfl, rfl, hs4, hm4⟩
      rw [hW] at hm4
      obtain ⟨rfl, h44, h45, h46⟩ := hm4
      have hs4' := hs4.K (ks := [3, 4, 5, 6]) (as := []) (by decide)
      have hS4 : xS12 I I4 := hS3.trans (xS12.sm hs4' (by decide) (by decide))
      have h414 : I4 250 14 = nI B.1 := (hs4' 250 14 (by decide)).trans h314
      have h415 : I4 250 15 = nI B.2 := (hs4' 250 15 (by decide)).trans h315
      refine ⟨fun z => absurd z (by decide), fun _ => ?_⟩
      rw [h414, h415]
      refine ⟨_, c_RF_typeAt (q := B) hL (hS4.ms hm) (by omega) (by omega), ?_⟩
      rintro z5 I5 _ _ ⟨rfl, rfl, rfl, rfl⟩
      have hR4 : ∀ t, t < 5 → xRr I4 (5 * 12 + t) (A t) := by
        intro t ht
        refine (hR t ht).keep (fun a j hc => ?_)
        have hca : 258 ≤ a ∧ a ≤ 262 := by unfold cr at hc; omega
        have e1 := hs4' a j (dF_no (by omega) (by simp))
        have e2 := hs3 a j (dF_no (by omega) (by simp))
        have e3 := (hs2.K (ks := [3, 4, 5, 6]) (as := []) (by decide)) a j (dF_no (by omega) (by simp))
        rw [e1, e2, xu_other (by omega), e3, xu_other (by omega)]
      cases hty : tyx m B with
      | none =>
        rw [hty] at hx
        exact b_RF_addAttributes_124 hL ⟨fun z => absurd z (by decide), fun _ => ⟨rfl, rfl, hS4, by rw [hx]; rfl⟩⟩
      | some t =>
        have ht5 := tyx_5 hty
        have hmo3 : mo t ≤ 3 := by unfold mo; split <;> omega
        rw [hty] at hx
        simp only at hx
        refine b_RF_addAttributes_124 hL ?_
        rw [show tyo (some t) = nI t from rfl, show (60 : Int32) = nI 60 from rfl, nI_add, ncl (60 + t)]
        refine ⟨fun _ => ⟨pk_in (60 + t) 65 (by omega), pk_le (A t).length 0 (fun z => ?_) (fun z => ⟨rfl, rfl, hS4, ?_⟩) ((hR4 t ht5).2.1) rfl (by have := (hR4 t ht5).1; omega) (by omega)⟩, fun z => absurd (nI_pos' (n := t) (by omega)) z⟩
        · rw [if_pos (by omega)] at hx
          have hA0 : A t = [] := List.eq_nil_of_length_eq_zero (by omega)
          rw [h44, h45, hWs]
          refine ⟨_, c_RF_listValues (p := W.1) (e := s.2) hL ((hS4.ms hm).le (by omega)) (by omega) (by omega), ?_⟩
          rintro z6 I6 _ _ ⟨rfl, rfl, hs6, hm6⟩
          rw [hLv] at hm6
          obtain ⟨rfl, h68, h618, hvs⟩ := hm6
          have hS6 : xS12 I I6 := hS4.trans (xS12.sm hs6 (by decide) (by decide))
          have hqe : ∀ q ∈ L, q.1 ≤ q.2 ∧ q.2 ≤ e := fun q hq' => by have := hvo.2 q hq'; omega
          refine ⟨fun z => absurd z (by decide), fun _ => ⟨_, c_RF_judgeValues hL (hS6.ms hm) (by omega) ht5 h618 hvs h68 hqe h30, ?_⟩⟩
          rintro z7 I7 _ _ ⟨rfl, rfl, hs7, rfl⟩
          have hS7 : xS12 I I7 := hS6.trans (xS12.sj hs7)
          refine b_RF_addAttributes_180 hL ?_
          cases hrd : rdv m t L [] with
          | inl c =>
            rw [hrd] at hx
            refine ⟨fun z => ?_, fun _ => ⟨rfl, rfl, hS7, by rw [hx]; rfl⟩⟩
            have z : nI c = 0 := z
            rcases rdv_code hrd with rfl | rfl <;> exact absurd z (by decide)
          | inr R =>
            rw [hrd] at hx
            simp only at hx
            obtain ⟨S, hS, hSl, hSv⟩ := rdv_val hrd
            rw [List.nil_append] at hS
            subst hS
            have hok := rdv_ok (fun q hq' j hj => hb8 j (by have := (hqe q hq').2; omega)) (fun v hv => by cases hv) (by simp) hrd
            refine ⟨fun _ => ⟨_, c_RF_most hL ht5, ?_⟩, fun z => absurd rfl z⟩
            rintro z8 I8 _ _ ⟨rfl, rfl, rfl, rfl⟩
            have h718 : I7 250 18 = nI L.length := (hs7 250 18 (by omega) (by omega) (by omega)).trans h618
            refine pk_le L.length (mo t) (fun z2 => ?_) (fun z2 => ⟨rfl, rfl, hS7, ?_⟩) h718 rfl (by omega) (by omega)
            · rw [if_pos (by omega)] at hx
              have hR7 : ∀ i, i < 5 → xRr I7 (5 * 12 + i) (A i) := fun i hi => (hR4 i hi).keep (fun a j hc => by
                have hca : 258 ≤ a ∧ a ≤ 262 := by unfold cr at hc; omega
                rw [hs7 a j (by omega) (by omega) (by omega), hs6 a j (dF_no (by omega) (by simp; omega))])
              have hRt : xRr I7 (5 * 12 + t) [] := by have h := hR7 t ht5; rw [hA0] at h; exact h
              refine ⟨_, c_RF_appendValues (s := 12) (S := R) hL (hS7.ms hm) (by omega) ht5 (by omega) h718 (hs7.vs hvs) h68 hqe h30 hRt hSl hSv (by simp; omega), ?_⟩
              rintro I9 _ _ ⟨rfl, rfl, hs9, hr9⟩
              rw [List.nil_append] at hr9
              refine ih s.2 r (setA A t R) I9 1 (by omega) hr (fun a j hc => (hs9 a j (by unfold cr; omega) (by omega) (by omega) (by omega)).trans (hS7 a j hc)) (fun i hi => ?_) (fun i hi => ?_) hx
              · by_cases hit : i = t
                · subst hit; rw [setA_at]; exact ⟨hok.1, by omega, hok.2.1⟩
                · rw [setA_ne hit]; exact hA i hi
              · by_cases hit : i = t
                · subst hit; rw [setA_at]; exact hr9
                · rw [setA_ne hit]; exact (hR7 i hi).keep (fun a j hc => hs9 a j (by unfold cr at hc ⊢; omega) (by unfold cr at hc; omega) (by unfold cr at hc; omega) (by unfold cr at hc; omega))
            · rw [if_neg (by omega)] at hx
              rw [hx]
              rfl
        · rw [if_neg (by omega)] at hx
          rw [hx]
          rfl
  -- the counts of the entry that is tried
  have clr : ∀ (n t : Nat) (I1 : xIt), t + n = 5 → xS12 I I1 → (∀ i, i < t → I1 258 (60 + i) = 0) → G_RF_addAttributes l V (Qaa m t0 I J P) 12 [(0, xq (some 250)), (1, xi (nI p0)), (2, xi (nI e)), (3, xi (nI t))] [] I1 J P := by
    intro n
    induction n with
    | zero =>
      intro t I1 ht hs hd
      refine b_RF_addAttributes_12 hL (pk_le 5 t (fun _ => ?_) (fun z => by omega))
      exact loop 160 p0 t0 (fun _ => []) I1 _ hp0 hal hs (fun t ht => ⟨fun v hv => (by cases hv), by simp, by simp⟩) (fun i hi => ⟨by simp, hd i (by omega), fun q v hq => by simp at hq⟩) rfl
    | succ n ih =>
      intro t I1 ht hs hd
      refine b_RF_addAttributes_12 hL (pk_le 5 t (fun z => by omega) (fun _ => ?_))
      rw [show (60 : Int32) = nI 60 from rfl, nI_add, ncl (60 + t), nI_1]
      refine ⟨pk_in (60 + t) 65 (by omega), ih (t + 1) _ (by omega) (fun a j hc => (xu_other (by omega)).trans (hs a j hc)) (fun i hi => ?_)⟩
      by_cases hit : i = t
      · subst hit; exact xu_at
      · rw [xu_other (by omega)]; exact hd i (by omega)
  refine e_RF_addAttributes (b_RF_addAttributes_0 hL ?_)
  rw [h16, h17]
  exact clr 5 0 I rfl xS12.rfl (fun i hi => by omega)
end XRA

/-! the reference: bind, compare, add -/
/-- nothing but what a request's doing may change changed -/
def xSq (I I' : xIt) : Prop := ∀ a j, a < 250 ∨ a = 251 ∨ 267 ≤ a ∨ (a = 250 ∧ (j ≤ 2 ∨ (8 ≤ j ∧ j ≤ 13) ∨ j = 16 ∨ j = 17 ∨ 38 ≤ j)) → I' a j = I a j
theorem xSq.rfl {I : xIt} : xSq I I := fun _ _ _ => Eq.refl _
theorem xSq.trans {I I1 I2 : xIt} (h : xSq I I1) (h2 : xSq I1 I2) : xSq I I2 := fun a j h3 => (h2 a j h3).trans (h a j h3)
theorem xSq.n {I I1 : xIt} (h : xSn I I1) : xSq I I1 := fun a j h3 => h a j (by omega) (by omega) (by omega) (by omega) (by omega)
theorem xSq.t {I I1 : xIt} (h : xS12 I I1) : xSq I I1 := fun a j h3 => h a j (by omega)
theorem xSq.o {I I1 : xIt} {k : Nat} (h : xSfo k I I1) : xSq I I1 := fun a j h3 => h a j (by omega)
theorem xSq.j {I I1 : xIt} (h : xSj I I1) : xSq I I1 := fun a j h3 => h a j (by omega) (by omega) (by omega)
theorem xSq.e {I I1 : xIt} {s : Nat} (h : ∀ c j, ¬ ce s c j → I1 c j = I c j) : xSq I I1 := fun a j h3 => h a j (by unfold ce; omega)
def Qrf (R : Nat × List Ent × Option Nat) (I : xIt) (J : xJt) (P : xPt) : Int32 → xIt → xJt → xPt → Prop := fun r I' J' P' => J = J' ∧ P = P' ∧ xSq I I' ∧ r = nI R.1 ∧ xRt I' R.2.1 ∧ I' 250 37 = upI R.2.2
theorem enN_up {D : List Ent} {L : List (Nat × List Nat × List Nat)} {u : Option Nat} (h : fdn D L = some u) : enN D L = upI u := by
  unfold enN
  rw [h]
  cases u <;> rfl
theorem enN_who {m : Nat → Nat} {A : Nat × Nat} {D : List Ent} {N : List (Nat × List Nat × List Nat)} (hN : nr m A.1 A.2 = some N) : (∀ k, whoM m A D = .inr k → enN D N = nI k) ∧ ∀ c, whoM m A D = .inl c → c = 32 ∧ (enN D N = -1 ∨ enN D N = -2) := by
  unfold whoM enN
  rw [hN]
  simp only
  cases fdn D N with
  | none => exact ⟨fun k h => (by cases h), fun c h => by cases h; exact ⟨rfl, Or.inr rfl⟩⟩
  | some u => cases u with
    | none => exact ⟨fun k h => (by cases h), fun c h => by cases h; exact ⟨rfl, Or.inl rfl⟩⟩
    | some w => exact ⟨fun k h => by cases h; rfl, fun c h => by cases h⟩
section XRO
variable {l : Launch} {V : xV} {I : xIt} {J : xJt} {P : xPt} {m : Nat → Nat} {e : Nat} {D : List Ent}
theorem xRt.n {I1 : xIt} (h : xRt I D) (hs : xSn I I1) : xRt I1 D := h.keep' (hs 250 27 (by omega) (by omega) (by omega) (by omega) (by omega)) (fun a j h1 h2 => hs a j (by omega) (by omega) (by omega) (by omega) (by omega))
theorem xRt.o {I1 : xIt} {k : Nat} (h : xRt I D) (hs : xSfo k I I1) : xRt I1 D := h.keep' (hs 250 27 (by omega)) (fun a j h1 h2 => hs a j (by omega))
theorem xRt.t {I1 : xIt} (h : xRt I D) (hs : xS12 I I1) : xRt I1 D := h.keep (hs 250 27 (by omega)) (fun a j h1 h2 h3 h4 h5 h6 h7 => hs a j (by omega))
theorem xRt.j {I1 : xIt} (h : xRt I D) (hs : xSj I I1) : xRt I1 D := h.keep' (hs 250 27 (by omega) (by omega) (by omega)) (fun a j h1 h2 => hs a j (by omega) (by omega) (by omega))
theorem xRt.g {I1 : xIt} (h : xRt I D) (hs : ∀ a j, ¬ (a = 250 ∧ j = 21) → a ≠ 254 → I1 a j = I a j) : xRt I1 D := h.keep' (hs 250 27 (by omega) (by omega)) (fun a j h1 h2 => hs a j (by omega) (by omega))
theorem rows_re {i : Nat} {x : Ent} (hT : xRt I D) (hx : D[i]? = some x) (t : Nat) (ht : t < 5) : xRr I (5 * i + t) (x.1 t) := (hT.2.2 i x hx).1 t ht
set_option maxRecDepth 20000 in
theorem c_RF_bind {A C : Nat × Nat} {v : Int32} {b : Option Nat} (hL : xL P) (hm : xMs I 251 m e) (he : e ≤ 153) (hA : A.1 ≤ A.2 ∧ A.2 ≤ e) (hA30 : A.2 - A.1 ≤ 30) (hC : C.1 ≤ C.2 ∧ C.2 ≤ e) (hC30 : C.2 - C.1 ≤ 30) (hi : inv D) (hT : xRt I D) (h10 : I 250 10 = v) (h12 : I 250 12 = nI A.1) (h13 : I 250 13 = nI A.2) (h16 : I 250 16 = nI C.1) (h17 : I 250 17 = nI C.2) (h37 : I 250 37 = upI b) : xMet l V y_RF_bind 5 0 0 [xq (some 250)] xS0 I J P (xPi (Qrf ((bndm m D b (v, A, C)).1, D, (bndm m D b (v, A, C)).2) I J P)) := by
  have hb8 : ∀ j, j < e → m j < 256 := fun j hj => (hm j hj).2
  refine e_RF_bind (b_RF_bind_0 hL ?_)
  rw [h10]
  by_cases hv : v = 3
  · subst hv
    -- the session is bound to nobody first
    have t35 : ∀ (u0 : Int32) (I1 : xIt), xSn I I1 → (∀ k, whoM m A D = .inr k → u0 = nI k) → (∀ c, whoM m A D = .inl c → u0 < 0) → G_RF_bind l V (Qrf ((bndm m D b (3, A, C)).1, D, (bndm m D b (3, A, C)).2) I J P) 35 [(0, xq (some 250))] [xi u0] I1 J P := by
      intro u0 I1 hs1 hw1 hw2
      have hT1 := hT.n hs1
      have f : ∀ j, j ≠ 21 → j ≠ 24 → I1 250 j = I 250 j := fun j h1 h2 => hs1 250 j (by omega) (by omega) (by omega) (by omega) (by omega)
      have hS : xSq I (xu I1 250 37 (-1)) := fun a j h => (xu_other (by omega)).trans (hs1 a j (by omega) (by omega) (by omega) (by omega) (by omega))
      have hTu : ∀ w, xRt (xu I1 250 37 w) D := fun w => hT1.keep' (xu_other (by omega)) (fun a j h1 h2 => xu_other (by omega))
      have t65 : ¬ (A.1 = A.2 ∧ C.1 = C.2) → G_RF_bind l V (Qrf ((bndm m D b (3, A, C)).1, D, (bndm m D b (3, A, C)).2) I J P) 65 [(0, xq (some 250)), (1, xi u0)] [] (xu I1 250 37 (-1)) J P := by
        intro hne
        have hbn : bndm m D b (3, A, C) = match whoM m A D with
          | .inl _ => (49, none)
          | .inr w => match val m 4 C with
            | none => (49, none)
            | some v => if hs (rowsM D w 4) v.2 = true then (0, some w) else (49, none) := by
          unfold bndm
          simp only [if_pos]
          rw [if_neg hne]
          rfl
        cases hw : whoM m A D with
        | inl c =>
          rw [hw] at hbn
          have hlt := hw2 c hw
          refine b_RF_bind_65 hL ⟨fun z => absurd z (by intro z; exact absurd hlt (Int32.not_lt.mpr z)), fun _ => ⟨rfl, rfl, hS, ?_, hTu _, ?_⟩⟩
          · rw [hbn]; rfl
          · rw [hbn]; exact xu_at
        | inr k =>
          have hk := whoM_lt hw
          have hk12 := hT.2.1
          rw [hw] at hbn
          simp only at hbn
          rw [hw1 k hw]
          obtain ⟨x, hx⟩ : ∃ x, D[k]? = some x := ⟨_, List.getElem?_eq_getElem hk⟩
          have hrow : rowsM D k = x.1 := by unfold rowsM; rw [hx]
          have hwx := (hi.1 k x hx).1
          refine b_RF_bind_65 hL ⟨fun _ => ?_, fun z => absurd (nI_pos' (n := k) (by omega)) z⟩
          rw [xu_other (show ¬ (250 = 250 ∧ 16 = 37) by omega), xu_other (show ¬ (250 = 250 ∧ 17 = 37) by omega), f 16 (by omega) (by omega), f 17 (by omega) (by omega), h16, h17]
          refine ⟨_, c_RF_load hL (e := e) (fun j hj => ⟨(xu_other (by omega)).trans ((hs1 251 j (by omega) (by omega) (by omega) (by omega) (by omega)).trans (hm j hj).1), (hm j hj).2⟩) (by omega) hC (by omega), ?_⟩
          rintro I2 _ _ ⟨rfl, rfl, hs2, hg2⟩
          have hsb : by8 (sub m C.1 C.2) := sub_by8 (fun j hj => hb8 j (by omega))
          refine ⟨_, c_RF_formOf (t := 4) (k := 3) hL hg2 (by rw [sub_len]; omega) hsb (by omega) (by omega), ?_⟩
          rintro z3 I3 _ _ ⟨rfl, rfl, hs3, rfl, hf3⟩
          have hS3 : xSq I I3 := fun a j h => (hs3 a j (by omega)).trans ((hs2 a j (by omega) (by omega)).trans (hS a j h))
          have hT3 : xRt I3 D := ((hTu (-1)).g hs2).o hs3
          have h373 : I3 250 37 = -1 := (hs3 250 37 (by omega)).trans ((hs2 250 37 (by omega) (by omega)).trans xu_at)
          cases hfo : fo 4 (sub m C.1 C.2) with
          | none =>
            have hval : val m 4 C = none := by rw [val_fo, hfo]; rfl
            rw [hval] at hbn
            refine ⟨fun _ => ⟨rfl, rfl, hS3, ?_, hT3, ?_⟩, fun z => absurd (by decide) z⟩
            · rw [hbn]; rfl
            · rw [hbn]; exact h373
          | some p =>
            have hval : val m 4 C = some (sub m C.1 C.2, p) := by rw [val_fo, hfo]; rfl
            have hp6 := fo_ok hsb hfo
            rw [hval] at hbn
            simp only [hrow] at hbn
            have hf3 := hf3 p hfo
            have hR3 := rows_re hT3 hx 4 (by omega)
            refine ⟨fun z => absurd z (nI_pos (n := p.length) (by omega)), fun _ => ?_⟩
            rw [show oln (some p) = nI p.length from rfl]
            refine ⟨_, c_RF_placeOf (t := 4) (k := 3) hL hR3 hf3 (by omega) (by omega) (by omega) hp6.1 hp6.2.1 (fun v hv => (vk_pl ((hwx.1 4 (by omega)).1 v hv)).2), ?_⟩
            rintro z4 I4 _ _ ⟨rfl, rfl, rfl, rfl⟩
            cases hpl : plc (x.1 4) p with
            | none =>
              have hh : ¬ hs (x.1 4) p = true := fun h => by obtain ⟨q, hq⟩ := plc_some.mp h; rw [hpl] at hq; cases hq
              rw [if_neg hh] at hbn
              refine ⟨fun z => absurd z (by decide), fun _ => ⟨rfl, rfl, hS3, ?_, hT3, ?_⟩⟩
              · rw [hbn]; rfl
              · rw [hbn]; exact h373
            | some q =>
              have hh : hs (x.1 4) p = true := plc_some.mpr ⟨q, hpl⟩
              rw [if_pos hh] at hbn
              have hq3 := plc_lt hpl
              have := hR3.1
              refine ⟨fun _ => ⟨rfl, rfl, fun a j h => (xu_other (by omega)).trans (hS3 a j h), ?_, hT3.keep' (xu_other (by omega)) (fun a j h1 h2 => xu_other (by omega)), ?_⟩, fun z => absurd (nI_pos' (n := q) (by omega)) z⟩
              · rw [hbn]; rfl
              · rw [hbn]; exact xu_at
      refine b_RF_bind_35 hL ?_
      rw [f 12 (by omega) (by omega), f 13 (by omega) (by omega), f 16 (by omega) (by omega), f 17 (by omega) (by omega), h12, h13, h16, h17]
      refine (pk_eq A.1 A.2 (fun z => (pk_eq C.1 C.2 (fun z2 => ⟨rfl, rfl, hS, ?_, hTu _, ?_⟩) (fun z2 => t65 (fun h => z2 h.2))).symm) (fun z => t65 (fun h => z h.1))).symm
      · rw [show bndm m D b (3, A, C) = (0, none) from by unfold bndm; simp only [if_pos]; rw [if_pos ⟨z, z2⟩]]; rfl
      · rw [show bndm m D b (3, A, C) = (0, none) from by unfold bndm; simp only [if_pos]; rw [if_pos ⟨z, z2⟩]]; exact xu_at
    refine ⟨fun _ => ?_, fun z => absurd rfl z⟩
    rw [h12, h13]
    refine ⟨_, c_RF_readName (s := A.1) (e := A.2) hL (hm.le hA.2) (by omega) hA.1 hA30, ?_⟩
    rintro z1 I1 _ _ ⟨rfl, rfl, hs1, hm1⟩
    cases hN : nr m A.1 A.2 with
    | none =>
      rw [hN] at hm1
      have hm1 : z1 = -1 := hm1
      subst hm1
      have hw : whoM m A D = .inl 34 := by unfold whoM; rw [hN]
      exact ⟨fun z => absurd z (by decide), fun _ => t35 _ I1 hs1 (fun k h => by rw [hw] at h; cases h) (fun c h => by decide)⟩
    | some N =>
      rw [hN] at hm1
      obtain ⟨rfl, hn1, -⟩ := hm1
      have hwp := nr_ok (fun j hj => hb8 j (by omega)) hN
      have hl3 := hwp.1
      refine ⟨fun _ => ⟨_, c_RF_entryNamed (w := 0) hL hi (hT.n hs1) hn1 hwp (by omega) (by omega), ?_⟩, fun z => absurd (nI_pos' (n := N.length) (by omega)) z⟩
      rintro z2 I2 _ _ ⟨rfl, rfl, rfl, rfl⟩
      have hen := enN_who (D := D) hN
      rw [List.drop_zero]
      exact t35 _ I1 hs1 hen.1 (fun c h => by rcases (hen.2 c h).2 with h | h <;> rw [h] <;> decide)
  · have hbn : bndm m D b (v, A, C) = (2, b) := by
      unfold bndm
      rw [if_neg hv]
    refine ⟨fun z => absurd z hv, fun _ => ⟨rfl, rfl, xSq.rfl, ?_, hT, ?_⟩⟩
    · rw [hbn]; rfl
    · rw [hbn]; exact h37
set_option maxRecDepth 20000 in
theorem c_RF_compare {A B C : Nat × Nat} {b : Option Nat} (hL : xL P) (hm : xMs I 251 m e) (he : e ≤ 153) (hA : A.1 ≤ A.2 ∧ A.2 ≤ e) (hA30 : A.2 - A.1 ≤ 30) (hB : B.1 ≤ B.2 ∧ B.2 ≤ e) (hC : C.1 ≤ C.2 ∧ C.2 ≤ e) (hC30 : C.2 - C.1 ≤ 30) (hi : inv D) (hT : xRt I D) (h12 : I 250 12 = nI A.1) (h13 : I 250 13 = nI A.2) (h14 : I 250 14 = nI B.1) (h15 : I 250 15 = nI B.2) (h16 : I 250 16 = nI C.1) (h17 : I 250 17 = nI C.2) (h37 : I 250 37 = upI b) : xMet l V y_RF_compare 5 0 0 [xq (some 250)] xS0 I J P (xPi (Qrf (cmpM m A B C D, D, b) I J P)) := by
  have hb8 : ∀ j, j < e → m j < 256 := fun j hj => (hm j hj).2
  have hD12 := hT.2.1
  refine e_RF_compare (b_RF_compare_0 hL ?_)
  rw [h12, h13]
  refine ⟨_, c_RF_readName (s := A.1) (e := A.2) hL (hm.le hA.2) (by omega) hA.1 hA30, ?_⟩
  rintro z1 I1 _ _ ⟨rfl, rfl, hs1, hm1⟩
  have f : ∀ j, j ≠ 21 → j ≠ 24 → I1 250 j = I 250 j := fun j h1 h2 => hs1 250 j (by omega) (by omega) (by omega) (by omega) (by omega)
  have hT1 := hT.n hs1
  have h371 : I1 250 37 = upI b := (f 37 (by omega) (by omega)).trans h37
  have hmm1 : xMs I1 251 m e := fun j hj => ⟨(hs1 251 j (by omega) (by omega) (by omega) (by omega) (by omega)).trans (hm j hj).1, (hm j hj).2⟩
  cases hN : nr m A.1 A.2 with
  | none =>
    rw [hN] at hm1
    have hm1 : z1 = -1 := hm1
    subst hm1
    have hcm : cmpM m A B C D = 34 := by simp [cmpM, whoM, hN]
    exact ⟨fun z => absurd z (by decide), fun _ => ⟨rfl, rfl, xSq.n hs1, by rw [hcm]; rfl, hT1, h371⟩⟩
  | some N =>
    rw [hN] at hm1
    obtain ⟨rfl, hn1, -⟩ := hm1
    have hwp := nr_ok (fun j hj => hb8 j (by omega)) hN
    have hl3 := hwp.1
    have hen := enN_who (D := D) hN
    refine ⟨fun _ => ⟨_, c_RF_entryNamed (w := 0) hL hi hT1 hn1 hwp (by omega) (by omega), ?_⟩, fun z => absurd (nI_pos' (n := N.length) (by omega)) z⟩
    rintro z2 I2 _ _ ⟨rfl, rfl, rfl, rfl⟩
    rw [List.drop_zero]
    cases hw : whoM m A D with
    | inl c =>
      have h2 := hen.2 c hw
      have hcm : cmpM m A B C D = 32 := by simp [cmpM, hw, h2.1]
      refine ⟨fun z => absurd z (by rcases h2.2 with h | h <;> rw [h] <;> decide), fun _ => ⟨rfl, rfl, xSq.n hs1, by rw [hcm]; rfl, hT1, h371⟩⟩
    | inr k =>
      have hk := whoM_lt hw
      rw [hen.1 k hw]
      obtain ⟨x, hx⟩ : ∃ x, D[k]? = some x := ⟨_, List.getElem?_eq_getElem hk⟩
      have hrow : rowsM D k = x.1 := by unfold rowsM; rw [hx]
      have hwx := (hi.1 k x hx).1
      refine ⟨fun _ => ?_, fun z => absurd (nI_pos' (n := k) (by omega)) z⟩
      rw [f 14 (by omega) (by omega), f 15 (by omega) (by omega), h14, h15]
      refine ⟨_, c_RF_typeAt (q := B) hL hmm1 (by omega) hB, ?_⟩
      rintro z3 I3 _ _ ⟨rfl, rfl, rfl, rfl⟩
      cases hty : tyx m B with
      | none =>
        have hcm : cmpM m A B C D = 17 := by simp [cmpM, hw, hty]
        exact ⟨fun z => absurd z (by decide), fun _ => ⟨rfl, rfl, xSq.n hs1, by rw [hcm]; rfl, hT1, h371⟩⟩
      | some t =>
        have ht := tyx_5 hty
        rw [show tyo (some t) = nI t from rfl, f 16 (by omega) (by omega), f 17 (by omega) (by omega), h16, h17]
        refine ⟨fun _ => ⟨_, c_RF_load hL hmm1 (by omega) hC (by omega), ?_⟩, fun z => absurd (nI_pos' (n := t) (by omega)) z⟩
        rintro I4 _ _ ⟨rfl, rfl, hs4, hg4⟩
        have hsb : by8 (sub m C.1 C.2) := sub_by8 (fun j hj => hb8 j (by omega))
        refine ⟨_, c_RF_formOf (k := 3) hL hg4 (by rw [sub_len]; omega) hsb ht (by omega), ?_⟩
        rintro z5 I5 _ _ ⟨rfl, rfl, hs5, rfl, hf5⟩
        have hS5 : xSq I I5 := fun a j h => (hs5 a j (by omega)).trans ((hs4 a j (by omega) (by omega)).trans (xSq.n hs1 a j h))
        have hT5 : xRt I5 D := (hT1.g hs4).o hs5
        have h375 : I5 250 37 = upI b := (hs5 250 37 (by omega)).trans ((hs4 250 37 (by omega) (by omega)).trans h371)
        cases hfo : fo t (sub m C.1 C.2) with
        | none =>
          have hval : val m t C = none := by rw [val_fo, hfo]; rfl
          have hcm : cmpM m A B C D = 21 := by simp [cmpM, hw, hty, hval]
          exact ⟨fun z => absurd z (by decide), fun _ => ⟨rfl, rfl, hS5, by rw [hcm]; rfl, hT5, h375⟩⟩
        | some p =>
          have hval : val m t C = some (sub m C.1 C.2, p) := by rw [val_fo, hfo]; rfl
          have hp6 := fo_ok hsb hfo
          have hcm : cmpM m A B C D = if (x.1 t).length = 0 then 16 else if hs (x.1 t) p = true then 6 else 5 := by simp [cmpM, hw, hty, hval, hrow]
          have hf5 := hf5 p hfo
          have hR5 := rows_re hT5 hx t ht
          have hR53 := hR5.1
          rw [show oln (some p) = nI p.length from rfl, nI_5m, nI_add, ncl (5 * k + t), hR5.2.1, hcm]
          refine ⟨fun _ => ⟨pk_in (5 * k + t) 65 (by omega), (pk_eq (x.1 t).length 0 (fun z => ⟨rfl, rfl, hS5, by rw [if_pos z]; rfl, hT5, h375⟩) (fun z => ⟨_, c_RF_placeOf (k := 3) hL hR5 hf5 (by omega) ht (by omega) hp6.1 hp6.2.1 (fun v hv => (vk_pl ((hwx.1 t ht).1 v hv)).2), ?_⟩)).symm⟩, fun z => absurd (nI_pos' (n := p.length) (by omega)) z⟩
          rintro z6 I6 _ _ ⟨rfl, rfl, rfl, rfl⟩
          rw [if_neg z]
          cases hpl : plc (x.1 t) p with
          | none =>
            have hh : ¬ hs (x.1 t) p = true := fun h => by obtain ⟨q, hq⟩ := plc_some.mp h; rw [hpl] at hq; cases hq
            exact ⟨fun _ => ⟨rfl, rfl, hS5, by rw [if_neg hh]; rfl, hT5, h375⟩, fun z => absurd (by decide) z⟩
          | some q =>
            have hh : hs (x.1 t) p = true := plc_some.mpr ⟨q, hpl⟩
            have hq3 := plc_lt hpl
            exact ⟨fun z => absurd z (nI_pos (n := q) (by omega)), fun _ => ⟨rfl, rfl, hS5, by rw [if_pos hh]; rfl, hT5, h375⟩⟩
end XRO

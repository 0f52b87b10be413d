/-! the reference: modify -/
section XRM2
variable {l : Launch} {V : xV} {I : xIt} {J : xJt} {P : xPt} {m : Nat → Nat} {e : Nat} {D : List Ent}
theorem xSq.c {I I1 : xIt} {t : Nat} (h : xSc t I I1) : xSq I I1 := fun a j h3 => h a j (by unfold cr; omega) (by omega) (by omega) (by omega) (by omega) (by omega)
theorem xRt.c {I1 : xIt} {t : Nat} (h : xRt I D) (ht : t < 5) (hs : xSc t I I1) : xRt I1 D := h.keep (hs 250 27 (by unfold cr; omega) (by omega) (by omega) (by omega) (by omega) (by omega)) (fun a j h1 h2 h3 h4 h5 h6 h7 => hs a j (by unfold cr; omega) (by omega) (by omega) (by omega) (by omega) (by omega))
theorem xRe.c {I1 : xIt} {t : Nat} {x : Ent} {R : List Vl} (h : xRe I 12 x) (ht : t < 5) (hs : xSc t I I1) (hr : xRr I1 (60 + t) R) : xRe I1 12 (setA x.1 t R, x.2) := by
  refine ⟨fun i hi => ?_, (hs 263 12 (by unfold cr; omega) (by omega) (by omega) (by omega) (by omega) (by omega)).trans h.2.1, (hs 264 12 (by unfold cr; omega) (by omega) (by omega) (by omega) (by omega) (by omega)).trans h.2.2.1, (hs 265 12 (by unfold cr; omega) (by omega) (by omega) (by omega) (by omega) (by omega)).trans h.2.2.2.1, h.2.2.2.2.1, h.2.2.2.2.2.far (fun j _ _ => hs 266 j (by unfold cr; omega) (by omega) (by omega) (by omega) (by omega) (by omega))⟩
  show xRr I1 (5 * 12 + i) (setA x.1 t R i)
  by_cases hit : i = t
  · subst hit; rw [setA_at]; exact hr
  · rw [setA_ne hit]; exact (h.1 i hi).keep (fun a j hc => hs a j (by unfold cr at hc ⊢; omega) (by unfold cr at hc; omega) (by unfold cr at hc; omega) (by unfold cr at hc; omega) (by unfold cr at hc; omega) (by unfold cr at hc; omega))
set_option maxRecDepth 20000 in
theorem c_RF_modify {A B : Nat × Nat} {c p0 : Nat} {L : List (Nat × Nat)} {b : Option Nat} (hL : xL P) (hm : xMs I 251 m e) (he : e ≤ 153) (hA : A.1 ≤ A.2 ∧ A.2 ≤ e) (hA30 : A.2 - A.1 ≤ 30) (hB : B.1 ≤ B.2 ∧ B.2 ≤ e) (hp0 : p0 ≤ e) (hc2 : c ≤ 2) (hLv : vl m 8 p0 e = some L) (hi : inv D) (hT : xRt I D) (h11 : I 250 11 = nI c) (h12 : I 250 12 = nI A.1) (h13 : I 250 13 = nI A.2) (h14 : I 250 14 = nI B.1) (h15 : I 250 15 = nI B.2) (h16 : I 250 16 = nI p0) (h17 : I 250 17 = nI e) (h37 : I 250 37 = upI b) : xMet l V y_RF_modify 6 0 0 [xq (some 250)] xS0 I J P (xPi (Qad D b (modM m A c B L D) I J P)) := by
  have hb8 : ∀ j, j < e → m j < 256 := fun j hj => (hm j hj).2
  have hD12 := hT.2.1
  have hvo := vl_ok _ _ _ _ hLv
  have h30 := vl_30 _ _ _ _ hLv
  have hqe : ∀ q ∈ L, q.1 ≤ q.2 ∧ q.2 ≤ e := fun q hq' => by have := hvo.2 q hq'; omega
  refine e_RF_modify (b_RF_modify_0 hL ?_)
  rw [h12, h13]
  refine ⟨_, c_RF_readName (s := A.1) (e := A.2) hL (hm.le hA.2) (by omega) hA.1 hA30, ?_⟩
  rintro z1 I1 _ _ ⟨rfl, rfl, hs1, hm1⟩
  have f : ∀ j, j ≠ 21 → j ≠ 24 → I1 250 j = I 250 j := fun j h1 h2 => hs1 250 j (by omega) (by omega) (by omega) (by omega) (by omega)
  have hT1 := hT.n hs1
  have h371 : I1 250 37 = upI b := (f 37 (by omega) (by omega)).trans h37
  have hmm1 : xMs I1 251 m e := fun j hj => ⟨(hs1 251 j (by omega) (by omega) (by omega) (by omega) (by omega)).trans (hm j hj).1, (hm j hj).2⟩
  cases hN : nr m A.1 A.2 with
  | none =>
    rw [hN] at hm1
    have hm1 : z1 = -1 := hm1
    subst hm1
    have hcm : modM m A c B L D = .inl 34 := by simp [modM, whoM, hN]
    exact ⟨fun z => absurd z (by decide), fun _ => ⟨rfl, rfl, xSq.n hs1, h371, by rw [hcm]; exact ⟨rfl, hT1⟩⟩⟩
  | some N =>
    rw [hN] at hm1
    obtain ⟨rfl, hn1, -⟩ := hm1
    have hwp := nr_ok (fun j hj => hb8 j (by omega)) hN
    have hl3 := hwp.1
    have hen := enN_who (D := D) hN
    refine ⟨fun _ => ⟨_, c_RF_entryNamed (w := 0) hL hi hT1 hn1 hwp (by omega) (by omega), ?_⟩, fun z => absurd (nI_pos' (n := N.length) (by omega)) z⟩
    rintro z2 I2 _ _ ⟨rfl, rfl, rfl, rfl⟩
    rw [List.drop_zero]
    cases hw : whoM m A D with
    | inl k =>
      have h2 := hen.2 k hw
      have hcm : modM m A c B L D = .inl 32 := by simp [modM, hw, h2.1]
      refine ⟨fun z => absurd z (by rcases h2.2 with h | h <;> rw [h] <;> decide), fun _ => ⟨rfl, rfl, xSq.n hs1, h371, by rw [hcm]; exact ⟨rfl, hT1⟩⟩⟩
    | inr k =>
      have hk := whoM_lt hw
      rw [hen.1 k hw]
      obtain ⟨x, hx⟩ : ∃ x, D[k]? = some x := ⟨_, List.getElem?_eq_getElem hk⟩
      have hmd : modM m A c B L D = put1 D k (mdm m c B L x) := by simp [modM, hw, hx]
      rw [hmd]
      have hwx := (hi.1 k x hx).1
      refine ⟨fun _ => ?_, fun z => absurd (nI_pos' (n := k) (by omega)) z⟩
      rw [f 14 (by omega) (by omega), f 15 (by omega) (by omega), h14, h15]
      refine ⟨_, c_RF_typeAt (q := B) hL hmm1 (by omega) hB, ?_⟩
      rintro z3 I3 _ _ ⟨rfl, rfl, rfl, rfl⟩
      cases hty : tyx m B with
      | none =>
        have hcm : mdm m c B L x = .inl 17 := by simp [mdm, hty]
        exact ⟨fun z => absurd z (by decide), fun _ => ⟨rfl, rfl, xSq.n hs1, h371, by rw [hcm]; exact ⟨rfl, hT1⟩⟩⟩
      | some t =>
        have ht := tyx_5 hty
        rw [show tyo (some t) = nI t from rfl, f 16 (by omega) (by omega), f 17 (by omega) (by omega), h16, h17]
        refine ⟨fun _ => ⟨_, c_RF_listValues (p := p0) (e := e) hL hmm1 (by omega) (by omega), ?_⟩, fun z => absurd (nI_pos' (n := t) (by omega)) z⟩
        rintro z4 I4 _ _ ⟨rfl, rfl, hs4, hm4⟩
        rw [hLv] at hm4
        obtain ⟨rfl, h8, h18, hvs⟩ := hm4
        have hS4' : xS12 I1 I4 := xS12.sm hs4 (by decide) (by decide)
        have hS4 : xSq I I4 := (xSq.n hs1).trans (xSq.t hS4')
        have hT4 := hT1.t hS4'
        refine ⟨fun z => absurd z (by decide), fun _ => ⟨_, c_RF_judgeValues hL (hS4'.ms hmm1) (by omega) ht h18 hvs h8 hqe h30, ?_⟩⟩
        rintro z5 I5 _ _ ⟨rfl, rfl, hs5, rfl⟩
        have hS5 : xSq I I5 := hS4.trans (xSq.j hs5)
        have hT5 := hT4.j hs5
        have h375 : I5 250 37 = upI b := (hs5 250 37 (by omega) (by omega) (by omega)).trans ((hS4' 250 37 (by omega)).trans h371)
        refine b_RF_modify_76 hL ?_
        cases hrd : rdv m t L [] with
        | inl q =>
          have hcm : mdm m c B L x = .inl q := by simp [mdm, hty, hrd]
          refine ⟨fun z => ?_, fun _ => ⟨rfl, rfl, hS5, h375, by rw [hcm]; exact ⟨rfl, hT5⟩⟩⟩
          have z : nI q = 0 := z
          rcases rdv_code hrd with rfl | rfl <;> exact absurd z (by decide)
        | inr S =>
          have hok := rdv_ok (fun q hq' j hj => hb8 j (by have := (hqe q hq').2; omega)) (fun v hv => by cases hv) (by simp) hrd
          refine ⟨fun _ => ⟨_, c_RF_copyEntry (a := k) (b := 12) hL (hT5.2.2 k x hx) (by omega) (by omega) (by omega), ?_⟩, fun z => absurd rfl z⟩
          rintro I6 _ _ ⟨rfl, rfl, hs6, hx6⟩
          have hS6 : xSq I I6 := hS5.trans (xSq.e hs6)
          have hT6 := hT5.e12 hs6
          have g6 : ∀ j, j ≠ 21 → j ≠ 24 → j ≠ 3 → j ≠ 4 → j ≠ 5 → j ≠ 6 → j ≠ 14 → j ≠ 15 → j ≠ 18 → I6 250 j = I 250 j := fun j a1 a2 a3 a4 a5 a6 a7 a8 a9 => (hs6 250 j (by unfold ce; omega)).trans ((hs5 250 j (by omega) (by omega) (by omega)).trans ((hs4 250 j (dF_no (by simp; omega) (by simp))).trans (f j a1 a2)))
          have hmm6 : xMs I6 251 m e := fun j hj => ⟨(hS6 251 j (by omega)).trans (hm j hj).1, (hm j hj).2⟩
          refine ⟨_, c_RF_change (c := c) hL hmm6 he hp0 hc2 ht ((g6 11 (by omega) (by omega) (by omega) (by omega) (by omega) (by omega) (by omega) (by omega) (by omega)).trans h11) ((g6 16 (by omega) (by omega) (by omega) (by omega) (by omega) (by omega) (by omega) (by omega) (by omega)).trans h16) ((g6 17 (by omega) (by omega) (by omega) (by omega) (by omega) (by omega) (by omega) (by omega) (by omega)).trans h17) hLv hrd (hx6.1 t ht) (hwx.1 t ht), ?_⟩
          rintro z7 I7 _ _ ⟨rfl, rfl, hs7, hm7⟩
          have hS7 : xSq I I7 := hS6.trans (xSq.c hs7)
          have hT7 := hT6.c ht hs7
          have h377 : I7 250 37 = upI b := (hs7 250 37 (by unfold cr; omega) (by omega) (by omega) (by omega) (by omega) (by omega)).trans ((g6 37 (by omega) (by omega) (by omega) (by omega) (by omega) (by omega) (by omega) (by omega) (by omega)).trans h37)
          cases hch : chg c t (x.1 t) S with
          | inl q =>
            rw [hch] at hm7
            have hm7 : z7 = nI q := hm7
            subst hm7
            have hq := chg_code hch
            have hcm : mdm m c B L x = .inl q := by simp [mdm, hty, hrd, hch]
            exact ⟨fun z => absurd z (fun z => by have z : nI q = nI 0 := z; have := (nI_eq (by omega) (by omega)).mp z; omega), fun _ => ⟨rfl, rfl, hS7, h377, by rw [hcm]; exact ⟨rfl, hT7⟩⟩⟩
          | inr R =>
            rw [hch] at hm7
            obtain ⟨rfl, hr7⟩ := hm7
            have hwR := chg_ok (hwx.1 t ht) hok.1 hok.2.1 hch
            have hx7 : xRe I7 12 (setA x.1 t R, x.2) := hx6.c ht hs7 hr7
            have hwA : ∀ i, i < 5 → wfr i (setA x.1 t R i) := fun i hi => by
              by_cases hit : i = t
              · subst hit; rw [setA_at]; exact hwR
              · rw [setA_ne hit]; exact hwx.1 i hi
            have hcm : mdm m c B L x = if hs (setA x.1 t R x.2.1) x.2.2.1 = true then (if stru (setA x.1 t R 0) = stru (x.1 0) then (if fitb (setA x.1 t R) = true then .inr (setA x.1 t R, x.2) else .inl 65) else .inl 69) else .inl 67 := by simp [mdm, hty, hrd, hch]
            have hst : ∀ R : List Vl, stru R < 4 := fun R => by unfold stru; split <;> split <;> omega
            rw [hcm]
            have hx5 : x.2.1 < 5 := by have := hwx.2.1; omega
            refine ⟨fun _ => ⟨_, c_RF_hasPart (e := 12) hL (by omega) hx7 hx5 hwx.2.2.2 (hwA x.2.1 hx5).1, ?_⟩, fun z => absurd rfl z⟩
            rintro z8 I8 _ _ ⟨rfl, rfl, hs8, rfl⟩
            have hS8 : xSq I I8 := hS7.trans (xSq.o hs8)
            have hT8 := hT7.o hs8
            have h378 : I8 250 37 = upI b := (hs8 250 37 (by omega)).trans h377
            have hx8 : xRe I8 12 (setA x.1 t R, x.2) := hx7.keep (fun a j hc => hs8 a j (by unfold ce at hc; omega))
            by_cases hh : hs (setA x.1 t R x.2.1) x.2.2.1 = true
            · rw [if_pos hh, if_pos hh]
              refine ⟨fun _ => ⟨_, c_RF_structural (e := 12) hL (by omega) (hx8.1 0 (by omega)) (fun v hv => (vk_pl ((hwA 0 (by omega)).1 v hv)).2), ?_⟩, fun z => absurd z (by decide)⟩
              rintro z9 I9 _ _ ⟨rfl, rfl, hs9, rfl⟩
              have hT9 := hT8.o hs9
              refine ⟨_, c_RF_structural (e := k) hL (by omega) ((hT9.2.2 k x hx).1 0 (by omega)) (fun v hv => (vk_pl ((hwx.1 0 (by omega)).1 v hv)).2), ?_⟩
              rintro z10 I10 _ _ ⟨rfl, rfl, hs10, rfl⟩
              have hs89 := hs9.trans hs10
              have hS10 : xSq I I10 := hS8.trans (xSq.o hs89)
              have hT10 := hT8.o hs89
              have h3710 : I10 250 37 = upI b := (hs89 250 37 (by omega)).trans h378
              have hx10 : xRe I10 12 (setA x.1 t R, x.2) := hx8.keep (fun a j hc => hs89 a j (by unfold ce at hc; omega))
              refine pk_eq (stru (setA x.1 t R 0)) (stru (x.1 0)) (fun z => ?_) (fun z => ⟨rfl, rfl, hS10, h3710, by rw [if_neg z]; exact ⟨rfl, hT10⟩⟩) rfl rfl (by have := hst (setA x.1 t R 0); omega) (by have := hst (x.1 0); omega)
              rw [if_pos z]
              refine ⟨_, c_RF_fits (s := 12) (A := setA x.1 t R) hL (by omega) hx10.1 (hwA 0 (by omega)), ?_⟩
              rintro z11 I11 _ _ ⟨rfl, rfl, hs11, rfl⟩
              have hS11 : xSq I I11 := hS10.trans (xSq.o hs11)
              have hT11 := hT10.o hs11
              have h3711 : I11 250 37 = upI b := (hs11 250 37 (by omega)).trans h3710
              have hx11 : xRe I11 12 (setA x.1 t R, x.2) := hx10.keep (fun a j hc => hs11 a j (by unfold ce at hc; omega))
              by_cases hfi : fitb (setA x.1 t R) = true
              · rw [if_pos hfi, if_pos hfi]
                refine ⟨fun _ => ⟨_, c_RF_copyEntry (a := 12) (b := k) hL hx11 (by omega) (by omega) (by omega), ?_⟩, fun z => absurd z (by decide)⟩
                rintro I12 _ _ ⟨rfl, rfl, hs12, hx12⟩
                exact ⟨rfl, rfl, hS11.trans (xSq.e hs12), (hs12 250 37 (by unfold ce; omega)).trans h3711, rfl, hT11.put hx hs12 hx12⟩
              · rw [if_neg hfi, if_neg hfi]
                exact ⟨fun z => absurd rfl z, fun _ => ⟨rfl, rfl, hS11, h3711, rfl, hT11⟩⟩
            · rw [if_neg hh, if_neg hh]
              exact ⟨fun z => absurd rfl z, fun _ => ⟨rfl, rfl, hS8, h378, rfl, hT8⟩⟩
end XRM2

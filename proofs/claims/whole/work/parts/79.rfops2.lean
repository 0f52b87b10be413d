/-! the reference: add, delete -/
section XRP
variable {l : Launch} {V : xV} {I : xIt} {J : xJt} {P : xPt} {m : Nat → Nat} {e : Nat} {D : List Ent}
def Qad (D : List Ent) (b : Option Nat) (R : Nat ⊕ List Ent) (I : xIt) (J : xJt) (P : xPt) : Int32 → xIt → xJt → xPt → Prop := fun r I' J' P' => J = J' ∧ P = P' ∧ xSq I I' ∧ I' 250 37 = upI b ∧ match R with
  | .inl c => r = nI c ∧ xRt I' D
  | .inr D' => r = 0 ∧ xRt I' D'
/-- the entry that was tried is written to a place -/
theorem xRt.put {I' : xIt} {k : Nat} {x x' : Ent} (h : xRt I D) (hx : D[k]? = some x) (hs : ∀ c j, ¬ ce k c j → I' c j = I c j) (hr : xRe I' k x') : xRt I' (D.set k x') := by
  refine ⟨(hs 250 27 (by unfold ce; omega)).trans (by rw [List.length_set]; exact h.1), by rw [List.length_set]; exact h.2.1, fun i y hy => ?_⟩
  by_cases hik : i = k
  · subst hik
    rw [List.getElem?_set_self (List.getElem?_eq_some_iff.mp hx).1] at hy
    cases hy
    exact hr
  · rw [List.getElem?_set_ne (Ne.symm hik)] at hy
    exact (h.2.2 i y hy).keep (fun a j hc => hs a j (ce_far hik hc))
theorem xRt.e12 {I' : xIt} (h : xRt I D) (hs : ∀ c j, ¬ ce 12 c j → I' c j = I c j) : xRt I' D := ⟨(hs 250 27 (by unfold ce; omega)).trans h.1, h.2.1, fun i y hy => (h.2.2 i y hy).keep (fun a j hc => hs a j (ce_far (by have := (List.getElem?_eq_some_iff.mp hy).1; have := h.2.1; omega) hc))⟩
set_option maxRecDepth 20000 in
theorem c_RF_add {A : Nat × Nat} {p0 : Nat} {t0 : List ((Nat × Nat) × List (Nat × Nat))} {b : Option Nat} (hL : xL P) (hm : xMs I 251 m e) (he : e ≤ 153) (hA : A.1 ≤ A.2 ∧ A.2 ≤ e) (hA30 : A.2 - A.1 ≤ 30) (hp0 : p0 ≤ e) (hal : al m 160 p0 e = some t0) (hi : inv D) (hT : xRt I D) (h12 : I 250 12 = nI A.1) (h13 : I 250 13 = nI A.2) (h16 : I 250 16 = nI p0) (h17 : I 250 17 = nI e) (h37 : I 250 37 = upI b) : xMet l V y_RF_add 6 0 0 [xq (some 250)] xS0 I J P (xPi (Qad D b (addM m A t0 D) I J P)) := by
  have hb8 : ∀ j, j < e → m j < 256 := fun j hj => (hm j hj).2
  have hD12 := hT.2.1
  refine e_RF_add (b_RF_add_0 hL ?_)
  rw [h12, h13]
  refine ⟨_, c_RF_readName (s := A.1) (e := A.2) hL (hm.le hA.2) (by omega) hA.1 hA30, ?_⟩
  rintro z1 I1 _ _ ⟨rfl, rfl, hs1, hm1⟩
  have f : ∀ j, j ≠ 21 → j ≠ 24 → I1 250 j = I 250 j := fun j h1 h2 => hs1 250 j (by omega) (by omega) (by omega) (by omega) (by omega)
  have hT1 := hT.n hs1
  have h371 : I1 250 37 = upI b := (f 37 (by omega) (by omega)).trans h37
  have hmm1 : xMs I1 251 m e := fun j hj => ⟨(hs1 251 j (by omega) (by omega) (by omega) (by omega) (by omega)).trans (hm j hj).1, (hm j hj).2⟩
  cases hN : nr m A.1 A.2 with
  | none =>
    rw [hN] at hm1
    have hm1 : z1 = -1 := hm1
    subst hm1
    have hcm : addM m A t0 D = .inl 34 := by simp [addM, hN]
    exact ⟨fun z => absurd z (by decide), fun _ => ⟨rfl, rfl, xSq.n hs1, h371, by rw [hcm]; exact ⟨rfl, hT1⟩⟩⟩
  | some N =>
    have hN1 := hN
    rw [hN] at hm1
    obtain ⟨rfl, hn1, -⟩ := hm1
    have hwp := nr_ok (fun j hj => hb8 j (by omega)) hN
    have hl3 := hwp.1
    have hadM : addM m A t0 D = addm m D N t0 := by simp [addM, hN]
    rw [hadM]
    refine ⟨fun _ => ⟨_, c_RF_addAttributes hL hmm1 he hp0 ((f 16 (by omega) (by omega)).trans h16) ((f 17 (by omega) (by omega)).trans h17) hal, ?_⟩, fun z => absurd (nI_pos' (n := N.length) (by omega)) z⟩
    rintro z2 I2 _ _ ⟨rfl, rfl, hs2, hm2⟩
    have hS2 : xSq I I2 := (xSq.n hs1).trans (xSq.t hs2)
    have hT2 := hT1.t hs2
    have h372 : I2 250 37 = upI b := (hs2 250 37 (by omega)).trans h371
    cases ha : adv m t0 (fun _ => []) with
    | inl c =>
      rw [ha] at hm2
      have hm2 : z2 = nI c := hm2
      subst hm2
      have hcm : addm m D N t0 = .inl c := by simp [addm, ha]
      have hc0 : c ≠ 0 := by
        intro h0
        subst h0
        have key : ∀ (t : List ((Nat × Nat) × List (Nat × Nat))) (A : Nat → List Vl), adv m t A ≠ .inl 0 := by
          intro t
          induction t with
          | nil => intro A h; cases h
          | cons x t ih =>
            intro A h
            rw [adv] at h
            cases hty : tyx m x.1 with
            | none => rw [hty] at h; cases h
            | some ty =>
              rw [hty] at h
              simp only at h
              by_cases h0 : (A ty).length = 0
              · rw [if_pos h0] at h
                cases hr : rdv m ty x.2 [] with
                | inl k => rw [hr] at h; cases h; rcases rdv_code hr with h | h <;> cases h
                | inr R =>
                  rw [hr] at h
                  simp only at h
                  by_cases h1 : R.length ≤ mo ty
                  · rw [if_pos h1] at h; exact ih _ h
                  · rw [if_neg h1] at h; cases h
              · rw [if_neg h0] at h; cases h
        exact key _ _ ha
      have hc69 := adv_code ha
      refine ⟨fun z => absurd z (fun z => by have z : nI c = nI 0 := z; exact hc0 ((nI_eq (by omega) (by omega)).mp z)), fun _ => ⟨rfl, rfl, hS2, h372, by rw [hcm]; exact ⟨rfl, hT2⟩⟩⟩
    | inr B =>
      rw [ha] at hm2
      obtain ⟨rfl, hR2⟩ := hm2
      have hal2 := al_ok _ _ _ _ hp0 hal
      have hwB : ∀ t, t < 5 → wfr t (B t) := adv_ok (fun x hx q hq j hj => hb8 j (by have := ((hal2.2 x hx).2.2 q hq).2; omega)) (fun i hi => ⟨fun v hv => (by cases hv), by simp, by simp⟩) ha
      have hadm : addm m D N t0 = adn D N B := by simp [addm, ha]
      rw [hadm]
      refine ⟨fun _ => ?_, fun z => absurd rfl z⟩
      rw [hs2 250 12 (by omega), hs2 250 13 (by omega), f 12 (by omega) (by omega), f 13 (by omega) (by omega), h12, h13]
      refine ⟨_, c_RF_readName (s := A.1) (e := A.2) hL ((hs2.ms hmm1).le hA.2) (by omega) hA.1 hA30, ?_⟩
      rintro z3 I3 _ _ ⟨rfl, rfl, hs3, hm3⟩
      rw [hN] at hm3
      obtain ⟨rfl, hn3, -⟩ := hm3
      have hS3 : xSq I I3 := hS2.trans (xSq.n hs3)
      have hT3 := hT2.n hs3
      have h373 : I3 250 37 = upI b := (hs3 250 37 (by omega) (by omega) (by omega) (by omega) (by omega)).trans h372
      have hR3 : ∀ t, t < 5 → xRr I3 (5 * 12 + t) (B t) := fun t ht => (hR2 t ht).keep (fun a j hc => hs3 a j (by unfold cr at hc; omega) (by unfold cr at hc; omega) (by unfold cr at hc; omega) (by unfold cr at hc; omega) (by unfold cr at hc; omega))
      have bad : ∀ c, adn D N B = .inl c → Qad D b (adn D N B) I J P (nI c) I3 J P := fun c hc => ⟨rfl, rfl, hS3, h373, by rw [hc]; exact ⟨rfl, hT3⟩⟩
      cases N with
      | nil => exact ⟨fun _ => bad 68 rfl, fun z => absurd rfl z⟩
      | cons p r =>
        have hpp := hwp.2 p (by simp)
        have hpk := po_ok hpp.2.1 hpp.2.2.1 hpp.2.2.2
        have hnp := hn3.2 0 p rfl
        refine ⟨fun z => absurd z (fun z => by have z : nI (p :: r).length = nI 0 := z; have := (nI_eq (by omega) (by omega)).mp z; simp at this), fun _ => ⟨_, c_RF_entryNamed (w := 0) hL hi hT3 hn3 hwp (by omega) (by omega), ?_⟩⟩
        rintro z4 I4 _ _ ⟨rfl, rfl, rfl, rfl⟩
        rw [List.drop_zero]
        cases hfd : fdn D (p :: r) with
        | some u =>
          obtain ⟨c, rfl⟩ := fdn_cons hfd
          have hcl := fdn_lt hfd
          rw [enN_up hfd]
          have had : adn D (p :: r) B = .inl 68 := by rw [adn, hfd]; rfl
          exact ⟨fun z => absurd z (nI_pos (n := c) (by omega)), fun _ => bad 68 had⟩
        | none =>
          rw [show enN D (p :: r) = -2 from by unfold enN; rw [hfd]]
          refine ⟨fun _ => ⟨_, c_RF_entryNamed (w := 1) hL hi hT3 hn3 hwp (by simp) (by omega), ?_⟩, fun z => absurd (by decide) z⟩
          rintro z5 I5 _ _ ⟨rfl, rfl, rfl, rfl⟩
          rw [show (p :: r).drop 1 = r from rfl]
          cases hfr : fdn D r with
          | none =>
            rw [show enN D r = -2 from by unfold enN; rw [hfr]]
            have had : adn D (p :: r) B = .inl 32 := by rw [adn, hfd, hfr]; rfl
            exact ⟨fun z => absurd rfl z, fun _ => bad 32 had⟩
          | some u =>
            rw [enN_up hfr]
            have hul : ∀ w, u = some w → w < D.length := fun w hw => by rw [hw] at hfr; exact fdn_lt hfr
            have had : adn D (p :: r) B = if D.length = 12 then .inl 53 else if fitb B = true then (if hs (B p.1) p.2.2 = true then .inr (D ++ [(B, p.1, p.2.2, u)]) else .inl 64) else .inl 65 := by rw [adn, hfd, hfr]; rfl
            have hu2 : upI u ≠ -2 := by
              cases u with
              | none => decide
              | some w =>
                intro h
                have := nI_pos (n := w) (by have := hul w rfl; omega)
                rw [show upI (some w) = nI w from rfl] at h
                rw [h] at this
                exact this (by decide)
            refine ⟨fun _ => (pk_eq D.length 12 (fun z => bad 53 (by rw [had, if_pos z])) (fun z => ?_) hT3.1).symm, fun z => absurd z hu2⟩
            rw [if_neg z] at had
            refine ⟨_, c_RF_fits (s := 12) (A := B) hL (by omega) hR3 (hwB 0 (by omega)), ?_⟩
            rintro z6 I6 _ _ ⟨rfl, rfl, hs6, rfl⟩
            have hS6 : xSq I I6 := hS3.trans (xSq.o hs6)
            have hT6 := hT3.o hs6
            have h376 : I6 250 37 = upI b := (hs6 250 37 (by omega)).trans h373
            by_cases hfi : fitb B = true
            · rw [if_pos hfi] at had ⊢
              refine ⟨fun _ => ⟨_, c_RF_setPart (e := 12) (p := p) hL (by omega) ?_ ?_ ?_ hpk.1, ?_⟩, fun z => absurd z (by decide)⟩
              · rw [xu_other (by omega), hs6 256 0 (by omega)]; exact hnp.1
              · rw [xu_other (by omega), hs6 257 0 (by omega)]; exact hnp.2.1
              · exact hnp.2.2.far (fun j h1 h2 => by rw [xu_other (by omega), hs6 255 j (by omega)])
              rintro I7 _ _ ⟨rfl, rfl, hs7, h7a, h7b, h7c⟩
              have hfr7 : ∀ a j, ¬ ce 12 a j → I7 a j = I6 a j := fun a j h => (hs7 a j (by unfold ce at h; omega) (by unfold ce at h; omega)).trans (xu_other (by unfold ce at h; omega))
              have hS7 : xSq I I7 := hS6.trans (xSq.e hfr7)
              have hT7 := hT6.e12 hfr7
              have h377 : I7 250 37 = upI b := (hfr7 250 37 (by unfold ce; omega)).trans h376
              have hx7 : xRe I7 12 (B, p.1, p.2.2, u) := by
                refine ⟨fun t ht => (hR3 t ht).keep (fun a j hc => ?_), ?_, h7a, h7b, hpk.1, h7c⟩
                · rw [hs7 a j (by unfold cr at hc; omega) (by unfold cr at hc; omega), xu_other (by unfold cr at hc; omega), hs6 a j (by unfold cr at hc; omega)]
                · rw [hs7 263 12 (by omega) (by omega), xu_at]
              refine ⟨_, c_RF_hasPart (e := 12) hL (by omega) hx7 (by show p.1 < 5; omega) hpk.2 (hwB p.1 (by omega)).1, ?_⟩
              rintro z8 I8 _ _ ⟨rfl, rfl, hs8, rfl⟩
              have hS8 : xSq I I8 := hS7.trans (xSq.o hs8)
              have hT8 := hT7.o hs8
              have h378 : I8 250 37 = upI b := (hs8 250 37 (by omega)).trans h377
              have hx8 : xRe I8 12 (B, p.1, p.2.2, u) := hx7.keep (fun a j hc => hs8 a j (by unfold ce at hc; omega))
              by_cases hh : hs (B p.1) p.2.2 = true
              · rw [if_pos hh] at had ⊢
                rw [hT8.1]
                refine ⟨fun _ => ⟨_, c_RF_copyEntry (a := 12) (b := D.length) hL hx8 (by omega) (by omega) (by omega), ?_⟩, fun z => absurd z (by decide)⟩
                rintro I9 _ _ ⟨rfl, rfl, hs9, hx9⟩
                have h927 : I9 250 27 = nI D.length := (hs9 250 27 (by unfold ce; omega)).trans hT8.1
                rw [h927, nI_1]
                refine ⟨rfl, rfl, fun a j h => (xu_other (by omega)).trans (((hS8.trans (xSq.e hs9))) a j h), (xu_other (by omega)).trans ((hs9 250 37 (by unfold ce; omega)).trans h378), ?_⟩
                rw [had]
                refine ⟨rfl, by rw [xu_at]; simp, by simp; omega, fun i y hy => ?_⟩
                by_cases hil : i < D.length
                · rw [List.getElem?_append_left hil] at hy
                  exact (hT8.2.2 i y hy).keep (fun a j hc => (xu_other (by unfold ce at hc; omega)).trans (hs9 a j (ce_far (by omega) hc)))
                · rw [List.getElem?_append_right (by omega)] at hy
                  have h8 : i = D.length := by
                    have := (List.getElem?_eq_some_iff.mp hy).1
                    simp at this
                    omega
                  subst h8
                  simp at hy
                  subst hy
                  exact hx9.keep (fun a j hc => xu_other (by unfold ce at hc; omega))
              · rw [if_neg hh] at had ⊢
                exact ⟨fun z => absurd rfl z, fun _ => ⟨rfl, rfl, hS8, h378, by rw [had]; exact ⟨rfl, hT8⟩⟩⟩
            · rw [if_neg hfi] at had ⊢
              exact ⟨fun z => absurd rfl z, fun _ => ⟨rfl, rfl, hS6, h376, by rw [had]; exact ⟨rfl, hT6⟩⟩⟩
theorem xRe.up {k : Nat} {x : Ent} {u : Option Nat} (h : xRe I k x) : xRe (xu I 263 k (upI u)) k (x.1, x.2.1, x.2.2.1, u) := ⟨fun t ht => (h.1 t ht).keep (fun a j hc => xu_other (by unfold cr at hc; omega)), xu_at, (xu_other (by omega)).trans h.2.2.1, (xu_other (by omega)).trans h.2.2.2.1, h.2.2.2.2.1, h.2.2.2.2.2.far (fun j _ _ => xu_other (by omega))⟩
theorem upI_eq {u : Option Nat} {k : Nat} (hu : ∀ w, u = some w → w < 1000) (hk : k < 1000) : upI u = nI k ↔ u = some k := by
  cases u with
  | none =>
    constructor
    · intro h; exact absurd h.symm (nI_m1 (by omega))
    · intro h; cases h
  | some w =>
    have := hu w rfl
    constructor
    · intro h; rw [(nI_eq (by omega) (by omega)).mp h]
    · intro h; cases h; rfl
theorem upI_dlu {u : Option Nat} {k : Nat} (hu : ∀ w, u = some w → w < 1000) (hk : k < 1000) : (if upI u ≤ nI k then upI u else upI u - 1) = upI (u.map (dlu k)) := by
  cases u with
  | none =>
    have : upI none ≤ nI k := by
      show (-1 : Int32) ≤ nI k
      exact Int32.le_trans (by decide) (nI_pos' (n := k) (by omega))
    rw [if_pos this]
    rfl
  | some w =>
    have hw := hu w rfl
    show (if nI w ≤ nI k then nI w else nI w - 1) = nI (dlu k w)
    unfold dlu
    by_cases h : w ≤ k
    · rw [if_pos (nI_le h (by omega)), if_neg (by omega)]
    · rw [if_neg (nI_ge (by omega) (by omega)), if_pos (by omega)]
      exact pk_sub (b := 1) (by omega)
set_option maxRecDepth 20000 in
theorem c_RF_delete {A : Nat × Nat} {b : Option Nat} (hL : xL P) (hm : xMs I 251 m e) (he : e ≤ 153) (hA : A.1 ≤ A.2 ∧ A.2 ≤ e) (hA30 : A.2 - A.1 ≤ 30) (hi : inv D) (hT : xRt I D) (hbo : bok D b) (h12 : I 250 12 = nI A.1) (h13 : I 250 13 = nI A.2) (h37 : I 250 37 = upI b) : xMet l V y_RF_delete 5 0 0 [xq (some 250)] xS0 I J P (xPi (Qrf (delm m A D b) I J P)) := by
  have hb8 : ∀ j, j < e → m j < 256 := fun j hj => (hm j hj).2
  have hD12 := hT.2.1
  have hW := hi.1
  refine e_RF_delete (b_RF_delete_0 hL ?_)
  rw [h12, h13]
  refine ⟨_, c_RF_readName (s := A.1) (e := A.2) hL (hm.le hA.2) (by omega) hA.1 hA30, ?_⟩
  rintro z1 I1 _ _ ⟨rfl, rfl, hs1, hm1⟩
  have hT1 := hT.n hs1
  have h371 : I1 250 37 = upI b := (hs1 250 37 (by omega) (by omega) (by omega) (by omega) (by omega)).trans h37
  cases hN : nr m A.1 A.2 with
  | none =>
    rw [hN] at hm1
    have hm1 : z1 = -1 := hm1
    subst hm1
    have hcm : delm m A D b = (34, D, b) := by simp [delm, whoM, hN]
    rw [hcm]
    exact ⟨fun z => absurd z (by decide), fun _ => ⟨rfl, rfl, xSq.n hs1, rfl, hT1, h371⟩⟩
  | some N =>
    rw [hN] at hm1
    obtain ⟨rfl, hn1, -⟩ := hm1
    have hwp := nr_ok (fun j hj => hb8 j (by omega)) hN
    have hl3 := hwp.1
    have hen := enN_who (D := D) hN
    refine ⟨fun _ => ⟨_, c_RF_entryNamed (w := 0) hL hi hT1 hn1 hwp (by omega) (by omega), ?_⟩, fun z => absurd (nI_pos' (n := N.length) (by omega)) z⟩
    rintro z2 I2 _ _ ⟨rfl, rfl, rfl, rfl⟩
    rw [List.drop_zero]
    cases hw : whoM m A D with
    | inl c =>
      have h2 := hen.2 c hw
      have hcm : delm m A D b = (32, D, b) := by simp [delm, hw, h2.1]
      rw [hcm]
      refine ⟨fun z => absurd z (by rcases h2.2 with h | h <;> rw [h] <;> decide), fun _ => ⟨rfl, rfl, xSq.n hs1, rfl, hT1, h371⟩⟩
    | inr k =>
      have hk := whoM_lt hw
      rw [hen.1 k hw]
      have hcm : delm m A D b = if D.any (fun x => decide (x.2.2.2 = some k)) = true then (66, D, b) else (0, dlt D k, if b = some k then none else b.map (dlu k)) := by simp [delm, hw]
      rw [hcm]
      have hElen : (D.eraseIdx k).length = D.length - 1 := by rw [List.length_eraseIdx, if_pos hk]
      have hEu : ∀ (i : Nat) (x : Ent), (D.eraseIdx k)[i]? = some x → ∀ w, x.2.2.2 = some w → w < 12 := by
        intro i x hx w hw'
        rw [List.getElem?_eraseIdx] at hx
        by_cases h1 : i < k
        · rw [if_pos h1] at hx
          have := (hW i x hx).2 w hw'
          omega
        · rw [if_neg h1] at hx
          have h2 := (hW (i + 1) x hx).2 w hw'
          have := (List.getElem?_eq_some_iff.mp hx).1
          omega
      -- the parents' places
      have l3 : ∀ (n i : Nat) (I3 : xIt), i + n = D.length - 1 → xSq I I3 → I3 250 27 = nI (D.length - 1) → I3 250 37 = upI b → (∀ (j : Nat) (x : Ent), j < i → (dlt D k)[j]? = some x → xRe I3 j x) → (∀ (j : Nat) (x : Ent), i ≤ j → (D.eraseIdx k)[j]? = some x → xRe I3 j x) → D.any (fun x => decide (x.2.2.2 = some k)) ≠ true → G_RF_delete l V (Qrf (if D.any (fun x => decide (x.2.2.2 = some k)) = true then (66, D, b) else (0, dlt D k, if b = some k then none else b.map (dlu k))) I J P) 96 [(0, xq (some 250)), (1, xi (nI k)), (2, xi (nI i))] [] I3 J P := by
        intro n
        induction n with
        | zero =>
          intro i I3 hin hS h27 h37' h1 h2 hany
          rw [if_neg hany]
          have hlen : (dlt D k).length = D.length - 1 := by simp [dlt, List.length_eraseIdx, hk]
          have fin : ∀ v, v = upI (if b = some k then none else b.map (dlu k)) → Qrf (0, dlt D k, if b = some k then none else b.map (dlu k)) I J P 0 (xu I3 250 37 v) J P := by
            rintro _ rfl
            refine ⟨rfl, rfl, fun a j h => (xu_other (by omega)).trans (hS a j h), rfl, ⟨(xu_other (by omega)).trans (by rw [hlen]; exact h27), by show (dlt D k).length ≤ 12; omega, fun j x hx => ?_⟩, xu_at⟩
            have hx : (dlt D k)[j]? = some x := hx
            exact (h1 j x (by have := (List.getElem?_eq_some_iff.mp hx).1; omega) hx).keep (fun a i hc => xu_other (by unfold ce at hc; omega))
          refine b_RF_delete_96 hL (pk_le (D.length - 1) i (fun _ => ?_) (fun z => by omega) h27)
          rw [h37']
          have hbb : ∀ w, b = some w → w < 1000 := fun w hw' => by have := hbo w hw'; omega
          have hd := upI_dlu hbb (show k < 1000 by omega)
          refine ⟨fun z => ?_, fun z => fin _ (by rw [if_pos ((upI_eq hbb (by omega)).mp z)]; rfl)⟩
          have hbk : ¬ b = some k := fun h => z ((upI_eq hbb (by omega)).mpr h)
          rw [if_neg hbk] at fin
          rw [if_neg hbk]
          exact ⟨fun z2 => fin _ (by rw [← hd, if_pos z2]), fun z2 => fin _ (by rw [← hd, if_neg z2])⟩
        | succ n ih =>
          intro i I3 hin hS h27 h37' h1 h2 hany
          obtain ⟨x, hx⟩ : ∃ x, (D.eraseIdx k)[i]? = some x := ⟨_, List.getElem?_eq_getElem (by omega)⟩
          have hre := h2 i x (Nat.le_refl _) hx
          have hxu := hEu i x hx
          have hd := upI_dlu (u := x.2.2.2) (k := k) (fun w hw' => by have := hxu w hw'; omega) (by omega)
          have next : ∀ v, v = upI (x.2.2.2.map (dlu k)) → G_RF_delete l V (Qrf (if D.any (fun x => decide (x.2.2.2 = some k)) = true then (66, D, b) else (0, dlt D k, if b = some k then none else b.map (dlu k))) I J P) 96 [(0, xq (some 250)), (1, xi (nI k)), (2, xi (nI (i + 1)))] [] (xu I3 263 i v) J P := by
            rintro _ rfl
            refine ih (i + 1) _ (by omega) (fun a j h => (xu_other (by omega)).trans (hS a j h)) ((xu_other (by omega)).trans h27) ((xu_other (by omega)).trans h37') (fun j y hj hy => ?_) (fun j y hj hy => ?_) hany
            · by_cases hji : j = i
              · subst hji
                have hy2 : (dlt D k)[j]? = some (x.1, x.2.1, x.2.2.1, x.2.2.2.map (dlu k)) := by unfold dlt; rw [List.getElem?_map, hx]; rfl
                rw [hy2] at hy
                cases hy
                exact hre.up
              · exact (h1 j y (by omega) hy).keep (fun a q hc => xu_other (by unfold ce at hc; omega))
            · exact (h2 j y (by omega) hy).keep (fun a q hc => xu_other (by unfold ce at hc; omega))
          refine b_RF_delete_96 hL (pk_le (D.length - 1) i (fun z => by omega) (fun _ => ⟨pk_in i 13 (by omega), ?_⟩) h27)
          rw [ncl i, hre.2.1, nI_1]
          exact ⟨fun z => ⟨pk_in i 13 (by omega), pk_in i 13 (by omega), next _ (by rw [← hd, if_pos z])⟩, fun z => ⟨pk_in i 13 (by omega), pk_in i 13 (by omega), next _ (by rw [← hd, if_neg z])⟩⟩
      -- the later entries move down
      have l2 : ∀ (n i : Nat) (I3 : xIt), i + n = D.length - 1 → k ≤ i → xSq I I3 → I3 250 27 = nI (D.length - 1) → I3 250 37 = upI b → (∀ (j : Nat) (x : Ent), j < i → (D.eraseIdx k)[j]? = some x → xRe I3 j x) → (∀ (j : Nat) (x : Ent), i < j → D[j]? = some x → xRe I3 j x) → D.any (fun x => decide (x.2.2.2 = some k)) ≠ true → G_RF_delete l V (Qrf (if D.any (fun x => decide (x.2.2.2 = some k)) = true then (66, D, b) else (0, dlt D k, if b = some k then none else b.map (dlu k))) I J P) 72 [(0, xq (some 250)), (1, xi (nI k)), (2, xi (nI i))] [] I3 J P := by
        intro n
        induction n with
        | zero =>
          intro i I3 hin hki hS h27 h37' h1 h2 hany
          refine b_RF_delete_72 hL (pk_le (D.length - 1) i (fun _ => ?_) (fun z => by omega) h27)
          exact l3 (D.length - 1) 0 I3 (by omega) hS h27 h37' (fun j x hj => by omega) (fun j x _ hx => h1 j x (by have := (List.getElem?_eq_some_iff.mp hx).1; omega) hx) hany
        | succ n ih =>
          intro i I3 hin hki hS h27 h37' h1 h2 hany
          obtain ⟨x, hx⟩ : ∃ x, D[i + 1]? = some x := ⟨_, List.getElem?_eq_getElem (by omega)⟩
          refine b_RF_delete_72 hL (pk_le (D.length - 1) i (fun z => by omega) (fun _ => ?_) h27)
          rw [nI_1]
          refine ⟨_, c_RF_copyEntry (a := i + 1) (b := i) hL (h2 (i + 1) x (by omega) hx) (by omega) (by omega) (by omega), ?_⟩
          rintro I4 _ _ ⟨rfl, rfl, hs4, hx4⟩
          refine ih (i + 1) I4 (by omega) (by omega) (hS.trans (xSq.e hs4)) ((hs4 250 27 (by unfold ce; omega)).trans h27) ((hs4 250 37 (by unfold ce; omega)).trans h37') (fun j y hj hy => ?_) (fun j y hj hy => ?_) hany
          · by_cases hji : j = i
            · subst hji
              rw [List.getElem?_eraseIdx, if_neg (by omega), hx] at hy
              cases hy
              exact hx4
            · exact (h1 j y (by omega) hy).keep (fun a q hc => hs4 a q (ce_far hji hc))
          · exact (h2 j y (by omega) hy).keep (fun a q hc => hs4 a q (ce_far (by omega) hc))
      -- is there an entry below
      have l1 : ∀ (n i : Nat), i + n = D.length → (∀ (j : Nat) (x : Ent), j < i → D[j]? = some x → x.2.2.2 ≠ some k) → G_RF_delete l V (Qrf (if D.any (fun x => decide (x.2.2.2 = some k)) = true then (66, D, b) else (0, dlt D k, if b = some k then none else b.map (dlu k))) I J P) 33 [(0, xq (some 250)), (1, xi (nI k)), (2, xi (nI i))] [] I1 J P := by
        intro n
        induction n with
        | zero =>
          intro i hin hno
          have hany : D.any (fun x => decide (x.2.2.2 = some k)) ≠ true := fun h => by
            obtain ⟨x, hx, hd⟩ := List.any_eq_true.mp h
            obtain ⟨j, hj⟩ := List.getElem?_of_mem hx
            exact hno j x (by have := (List.getElem?_eq_some_iff.mp hj).1; omega) hj (of_decide_eq_true hd)
          refine b_RF_delete_33 hL (pk_le D.length i (fun _ => ?_) (fun z => by omega) hT1.1)
          rw [hT1.1, show nI D.length - 1 = nI (D.length - 1) from pk_sub (b := 1) (by omega)]
          have hre : ∀ (j : Nat) (x : Ent), D[j]? = some x → xRe (xu I1 250 27 (nI (D.length - 1))) j x := fun j x hx => (hT1.2.2 j x hx).keep (fun a q hc => xu_other (by unfold ce at hc; omega))
          refine l2 (D.length - 1 - k) k _ (by omega) (Nat.le_refl _) (fun a j h => (xu_other (by omega)).trans (xSq.n hs1 a j h)) xu_at ((xu_other (by omega)).trans h371) (fun j x hj hx => ?_) (fun j x _ hx => hre j x hx) hany
          rw [List.getElem?_eraseIdx, if_pos hj] at hx
          exact hre j x hx
        | succ n ih =>
          intro i hin hno
          obtain ⟨x, hx⟩ : ∃ x, D[i]? = some x := ⟨_, List.getElem?_eq_getElem (by omega)⟩
          have hre := hT1.2.2 i x hx
          have hxu : ∀ w, x.2.2.2 = some w → w < 1000 := fun w hw' => by have := (hW i x hx).2 w hw'; omega
          refine b_RF_delete_33 hL (pk_le D.length i (fun z => by omega) (fun _ => ⟨pk_in i 13 (by omega), ?_⟩) hT1.1)
          rw [ncl i, hre.2.1, nI_1]
          refine ⟨fun z => ih (i + 1) (by omega) (fun j y hj hy => ?_), fun z => ?_⟩
          · by_cases hji : j = i
            · subst hji
              rw [hx] at hy
              cases hy
              exact fun h => z ((upI_eq hxu (by omega)).mpr h)
            · exact hno j y (by omega) hy
          · have hany : D.any (fun x => decide (x.2.2.2 = some k)) = true := List.any_eq_true.mpr ⟨x, List.mem_of_getElem? hx, decide_eq_true ((upI_eq hxu (by omega)).mp z)⟩
            rw [if_pos hany]
            exact ⟨rfl, rfl, xSq.n hs1, rfl, hT1, h371⟩
      exact ⟨fun _ => l1 D.length 0 (by omega) (fun j x hj => by omega), fun z => absurd (nI_pos' (n := k) (by omega)) z⟩
end XRP

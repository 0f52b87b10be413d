/-! the reference: search, a request is done -/
section XRT
variable {l : Launch} {V : xV} {I : xIt} {J : xJt} {P : xPt} {D : List Ent} {m : Nat → Nat} {e : Nat}
/-- what a search leaves alone -/
def xSx (I I' : xIt) : Prop := ∀ a j, a < 250 ∨ a = 251 ∨ (a = 250 ∧ (j ≤ 2 ∨ (8 ≤ j ∧ j ≤ 13) ∨ j = 16 ∨ j = 17 ∨ j = 27 ∨ j = 37 ∨ j = 46)) → I' a j = I a j
theorem xSx.trans {I I1 I2 : xIt} (h : xSx I I1) (h2 : xSx I1 I2) : xSx I I2 := fun a j h3 => (h2 a j h3).trans (h a j h3)
def Qrs (R : Nat × Nat × List Nat) (D : List Ent) (I : xIt) (J : xJt) (P : xPt) : Int32 → xIt → xJt → xPt → Prop := fun r I' J' P' => J = J' ∧ P = P' ∧ xSx I I' ∧ xRt I' D ∧ r = nI R.1 ∧ I' 250 47 = nI R.2.1 ∧ xRo I' R.2.2
set_option maxRecDepth 20000 in
theorem c_RF_search {f d c p : Nat} {A : Nat × Nat} {lim : Int32} {N0 : List Fi} (hL : xL P) (hm : xMs I 251 m e) (he : e ≤ 153) (hi : inv D) (hT : xRt I D) (hsf : sf m f e = some (A, c, lim, p, N0)) (hA30 : A.2 - A.1 ≤ 30) (hd : d < 32768) (h8 : I 250 8 = nI d) (h10 : I 250 10 = lim) (h11 : I 250 11 = nI c) (h12 : I 250 12 = nI A.1) (h13 : I 250 13 = nI A.2) (h16 : I 250 16 = nI p) (h17 : I 250 17 = nI e) (hO : xRo I []) : xMet l V y_RF_search 6 0 0 [xq (some 250)] xS0 I J P (xPi (Qrs (srcM m e d A c lim p D) D I J P)) := by
  have hb8 : ∀ j, j < e → m j < 256 := fun j hj => (hm j hj).2
  have hD12 := hT.2.1
  have hW := hi.1
  obtain ⟨hA, hc2, hl0, ⟨R, hR, hR1, hRN⟩, hN12, hN1, hN75, hNf, hpe⟩ := sf_ok hb8 hsf
  simp only at hA hc2 hl0 hR hRN hpe
  refine e_RF_search (b_RF_search_0 hL ?_)
  rw [h12, h13]
  refine ⟨_, c_RF_readName (s := A.1) (e := A.2) hL (fun j hj => ⟨(xu_other (by omega)).trans (hm j (by omega)).1, (hm j (by omega)).2⟩) (by omega) hA.1 hA30, ?_⟩
  rintro z1 I1 _ _ ⟨rfl, rfl, hs1, hm1⟩
  have g1 : ∀ a j, a < 250 ∨ a = 251 ∨ (a = 250 ∧ j ≠ 21 ∧ j ≠ 24 ∧ j ≠ 47) ∨ (258 ≤ a) → I1 a j = I a j := fun a j h => (hs1 a j (by omega) (by omega) (by omega) (by omega) (by omega)).trans (xu_other (by omega))
  have hS1 : xSx I I1 := fun a j h => g1 a j (by omega)
  have hT1 : xRt I1 D := hT.keep' (g1 250 27 (by omega)) (fun a j h1 h2 => g1 a j (by omega))
  have h471 : I1 250 47 = nI 0 := (hs1 250 47 (by omega) (by omega) (by omega) (by omega) (by omega)).trans xu_at
  have hO1 : xRo I1 [] := ⟨(g1 250 42 (by omega)).trans hO.1, hO.2.1, fun i b hi => by simp at hi⟩
  have bad : ∀ c', srcM m e d A c lim p D = (c', 0, []) → Qrs (srcM m e d A c lim p D) D I J P (nI c') I1 J P := fun c' hc' => by
    rw [hc']
    exact ⟨rfl, rfl, hS1, hT1, rfl, h471, hO1⟩
  cases hN : nr m A.1 A.2 with
  | none =>
    rw [hN] at hm1
    have hm1 : z1 = -1 := hm1
    subst hm1
    exact ⟨fun z => absurd z (by decide), fun _ => bad 34 (by unfold srcM; rw [hN])⟩
  | some N =>
    rw [hN] at hm1
    obtain ⟨rfl, hn1, -⟩ := hm1
    have hwp := nr_ok (fun j hj => hb8 j (by omega)) hN
    have hl3 := hwp.1
    refine ⟨fun _ => ⟨_, c_RF_entryNamed (w := 0) hL hi hT1 hn1 hwp (by omega) (by omega), ?_⟩, fun z => absurd (nI_pos' (n := N.length) (by omega)) z⟩
    rintro z2 I2 _ _ ⟨rfl, rfl, rfl, rfl⟩
    rw [List.drop_zero]
    cases hfd : fdn D N with
    | none =>
      rw [show enN D N = -2 from by unfold enN; rw [hfd]]
      exact ⟨fun z => absurd rfl z, fun _ => bad 32 (by unfold srcM; rw [hN]; simp only [hfd])⟩
    | some u =>
      have hul : ∀ w, u = some w → w < D.length := fun w hw => by rw [hw] at hfd; exact fdn_lt hfd
      have hsr : srcM m e d A c lim p D = srl D d (fun i x => isc D c u i x && mtc m x.1 p e) lim D.length 0 0 [] := by unfold srcM; rw [hN]; simp only [hfd]
      rw [enN_up hfd]
      have hu2 : upI u ≠ -2 := by
        cases u with
        | none => decide
        | some w =>
          intro h
          have := nI_pos (n := w) (by have := hul w rfl; omega)
          rw [show upI (some w) = nI w from rfl] at h
          rw [h] at this
          exact this (by decide)
      have loop : ∀ (k i fd : Nat) (W : List Nat) (I3 : xIt), i + k = D.length → fd ≤ i → W.length ≤ 146 * i → xSx I I3 → xRt I3 D → I3 250 47 = nI fd → xRo I3 W → srcM m e d A c lim p D = srl D d (fun i x => isc D c u i x && mtc m x.1 p e) lim k i fd W → G_RF_search l V (Qrs (srcM m e d A c lim p D) D I J P) 40 [(0, xq (some 250)), (1, xi (upI u)), (2, xi (nI i))] [] I3 J P := by
        intro k
        induction k with
        | zero =>
          intro i fd W I3 hik hfd' hWl hS3 hT3 h47 hO3 hx
          refine b_RF_search_40 hL (pk_le D.length i (fun _ => ⟨rfl, rfl, hS3, hT3, ?_⟩) (fun z => by omega) hT3.1)
          rw [hx, srl]
          exact ⟨rfl, h47, hO3⟩
        | succ k ih =>
          intro i fd W I3 hik hfd' hWl hS3 hT3 h47 hO3 hx
          obtain ⟨x, hxi⟩ : ∃ x, D[i]? = some x := ⟨_, List.getElem?_eq_getElem (by omega)⟩
          have hwx := hW i x hxi
          rw [srl, hxi] at hx
          simp only at hx
          refine b_RF_search_40 hL (pk_le D.length i (fun z => by omega) (fun _ => ?_) hT3.1)
          refine ⟨_, c_RF_inScope hL hi hT3 ((hS3 250 11 (by omega)).trans h11) hc2 hxi hul, ?_⟩
          rintro z4 I4 _ _ ⟨rfl, rfl, rfl, rfl⟩
          rw [nI_1 i]
          by_cases hs : isc D c u i x = true
          · rw [if_pos hs]
            rw [hs, Bool.true_and] at hx
            refine ⟨fun z => absurd z (by decide), fun _ => ⟨_, c_RF_matches hL (fun j hj => ⟨(hS3 251 j (by omega)).trans (hm j hj).1, (hm j hj).2⟩) he hT3 hxi hwx.1 hR hR1 (by omega) ((hS3 250 16 (by omega)).trans h16) ((hS3 250 17 (by omega)).trans h17), ?_⟩⟩
            rintro z5 I5 _ _ ⟨rfl, rfl, hs5, rfl⟩
            have hS5 : xSx I I5 := hS3.trans (fun a j h => hs5 a j (by omega) (by omega) (by omega) (by omega) (by omega) (by omega))
            have hT5 := hs5.rt hT3
            have h475 : I5 250 47 = nI fd := (hs5 250 47 (by omega) (by omega) (by omega) (by omega) (by omega) (by omega)).trans h47
            have hO5 : xRo I5 W := ⟨(hs5 250 42 (by omega) (by omega) (by omega) (by omega) (by omega) (by omega)).trans hO3.1, hO3.2.1, fun j b hj => (hs5 271 j (by omega) (by omega) (by omega) (by omega) (by omega) (by omega)).trans (hO3.2.2 j b hj)⟩
            by_cases hmt : mtc m x.1 p e = true
            · rw [if_pos hmt]
              rw [if_pos hmt] at hx
              have t : ¬ (¬ lim = 0 ∧ nI fd = lim) → ∃ Q3 : xIt → xJt → xPt → Prop, xMet l V y_RF_writeEntry 4 0 0 [xq (some 250), xi (nI i)] xS0 (xu I5 250 47 (nI fd + 1)) J P (xPv Q3) ∧ ∀ (I6 : xIt) (J6 : xJt) (P6 : xPt), Q3 I6 J6 P6 → G_RF_search l V (Qrs (srcM m e d A c lim p D) D I J P) 40 [(0, xq (some 250)), (1, xi (upI u)), (2, xi (nI (i + 1)))] [] I6 J6 P6 := by
                intro hno
                rw [if_neg hno] at hx
                have hen := enb_146 (d := d) (e := i) hW hwx.1 (hi.2.2.1 i x hxi).1
                rw [nI_1]
                refine ⟨_, c_RF_writeEntry (d := d) (W := W) hL hi (hT5.keep' (xu_other (by omega)) (fun a j h1 h2 => xu_other (by omega))) hxi ⟨(xu_other (by omega)).trans hO5.1, hO5.2.1, fun j b hj => (xu_other (by omega)).trans (hO5.2.2 j b hj)⟩ hd ((xu_other (by omega)).trans ((hS5 250 8 (by omega)).trans h8)) (by rw [List.length_append]; omega), ?_⟩
                rintro I6 _ _ ⟨rfl, rfl, hs6, hO6⟩
                refine ih (i + 1) (fd + 1) _ I6 (by omega) (by omega) (by rw [List.length_append]; omega) (hS5.trans (fun a j h => (hs6 a j (by omega) (by omega) (by omega)).trans (xu_other (by omega)))) ((hT5.keep' (xu_other (by omega)) (fun a j h1 h2 => xu_other (by omega))).keep' (hs6 250 27 (by omega) (by omega) (by omega)) (fun a j h1 h2 => hs6 a j (by omega) (by omega) (by omega))) ((hs6 250 47 (by omega) (by omega) (by omega)).trans xu_at) hO6 hx
              refine ⟨fun z => absurd z (by decide), fun _ => ?_⟩
              rw [hS5 250 10 (by omega), h10, h475]
              refine ⟨fun z0 => t (fun h => h.1 z0), fun z0 => ⟨fun z4 => t (fun h => z4 h.2), fun z4 => ?_⟩⟩
              rw [if_pos ⟨z0, z4⟩] at hx
              refine ⟨rfl, rfl, hS5, hT5, ?_⟩
              rw [hx]
              exact ⟨rfl, h475, hO5⟩
            · rw [if_neg hmt]
              rw [if_neg hmt] at hx
              exact ⟨fun _ => ih (i + 1) fd W I5 (by omega) (by omega) (by omega) hS5 hT5 h475 hO5 hx, fun z => absurd rfl z⟩
          · rw [if_neg hs]
            rw [Bool.not_eq_true] at hs
            rw [hs, Bool.false_and, if_neg (by decide)] at hx
            exact ⟨fun _ => ih (i + 1) fd W I3 (by omega) (by omega) (by omega) hS3 hT3 h47 hO3 hx, fun z => absurd rfl z⟩
      exact ⟨fun _ => loop D.length 0 0 [] I1 (by omega) (by omega) (by simp) hS1 hT1 h471 hO1 hsr, fun z => absurd z hu2⟩
theorem bf_30 {f : Nat} {q : Int32 × (Nat × Nat) × (Nat × Nat)} (h : bf m f e = some q) : q.2.1.2 - q.2.1.1 ≤ 30 := by
  unfold bf at h
  obtain ⟨n, hn, h⟩ := Option.bind_eq_some_iff.mp h
  obtain ⟨A, hA, h⟩ := Option.bind_eq_some_iff.mp h
  obtain ⟨C, hC, h⟩ := Option.bind_eq_some_iff.mp h
  cases h
  exact (tk_bd hA).2.2.2.2.2.1
theorem cf_30 {f : Nat} {q : (Nat × Nat) × (Nat × Nat) × (Nat × Nat)} (h : cf m f e = some q) : q.1.2 - q.1.1 ≤ 30 := by
  unfold cf at h
  obtain ⟨A, hA, h⟩ := Option.bind_eq_some_iff.mp h
  obtain ⟨s, hs, h⟩ := Option.bind_eq_some_iff.mp h
  by_cases h1 : s.2 = e
  · rw [if_pos h1] at h
    obtain ⟨B, hB, h⟩ := Option.bind_eq_some_iff.mp h
    obtain ⟨C, hC, h⟩ := Option.bind_eq_some_iff.mp h
    by_cases h2 : C.2 = e
    · rw [if_pos h2] at h; cases h; exact (tk_bd hA).2.2.2.2.2.1
    · rw [if_neg h2] at h; cases h
  · rw [if_neg h1] at h; cases h
theorem mf_30 {f : Nat} {q : (Nat × Nat) × Nat × (Nat × Nat) × (Nat × Nat) × List (Nat × Nat)} (h : mf m f e = some q) : q.1.2 - q.1.1 ≤ 30 := by
  unfold mf at h
  obtain ⟨A, hA, h⟩ := Option.bind_eq_some_iff.mp h
  obtain ⟨c, hc, h⟩ := Option.bind_eq_some_iff.mp h
  by_cases h1 : c.1 ≤ 2
  · rw [if_pos h1] at h
    obtain ⟨B, hB, h⟩ := Option.bind_eq_some_iff.mp h
    obtain ⟨C, hC, h⟩ := Option.bind_eq_some_iff.mp h
    by_cases h2 : C.2 = e
    · rw [if_pos h2] at h
      obtain ⟨L, hL, h⟩ := Option.bind_eq_some_iff.mp h
      cases h
      exact (tk_bd hA).2.2.2.2.2.1
    · rw [if_neg h2] at h; cases h
  · rw [if_neg h1] at h; cases h
theorem nf_30 {f : Nat} {q : (Nat × Nat) × (Nat × Nat) × Nat × Nat} (hb : ∀ j, j < e → m j < 256) (h : nf m f e = some q) : q.1.2 - q.1.1 ≤ 30 ∧ q.2.1.2 - q.2.1.1 ≤ 30 ∧ q.2.2.1 < 256 := by
  unfold nf at h
  obtain ⟨A, hA, h⟩ := Option.bind_eq_some_iff.mp h
  obtain ⟨B, hB, h⟩ := Option.bind_eq_some_iff.mp h
  obtain ⟨c, hc, h⟩ := Option.bind_eq_some_iff.mp h
  cases h
  exact ⟨(tk_bd hA).2.2.2.2.2.1, (tk_bd hB).2.2.2.2.2.1, (sg_bd hb hc).2.2⟩
theorem af_30 {f : Nat} {q : (Nat × Nat) × (Nat × Nat) × List ((Nat × Nat) × List (Nat × Nat))} (h : af m f e = some q) : q.1.2 - q.1.1 ≤ 30 ∧ q.2.1.2 = e ∧ q.2.1.1 ≤ e ∧ al m 160 q.2.1.1 e = some q.2.2 := by
  unfold af at h
  obtain ⟨A, hA, h⟩ := Option.bind_eq_some_iff.mp h
  obtain ⟨C, hC, h⟩ := Option.bind_eq_some_iff.mp h
  have b2 := tk_bd hC
  by_cases h2 : C.2 = e
  · rw [if_pos h2] at h
    obtain ⟨t, ht, h⟩ := Option.bind_eq_some_iff.mp h
    cases h
    exact ⟨(tk_bd hA).2.2.2.2.2.1, h2, by show C.1 ≤ e; omega, ht⟩
  · rw [if_neg h2] at h; cases h
theorem sf_30 {f : Nat} {q : (Nat × Nat) × Nat × Int32 × Nat × List Fi} (h : sf m f e = some q) : q.1.2 - q.1.1 ≤ 30 := by
  unfold sf at h
  obtain ⟨A, hA, h⟩ := Option.bind_eq_some_iff.mp h
  obtain ⟨c, hc, h⟩ := Option.bind_eq_some_iff.mp h
  have h30 := (tk_bd hA).2.2.2.2.2.1
  by_cases h1 : c.1 ≤ 2
  · rw [if_pos h1] at h
    obtain ⟨n, hn, h⟩ := Option.bind_eq_some_iff.mp h
    by_cases h2 : 0 ≤ n.1
    · rw [if_pos h2] at h
      obtain ⟨x, hx, h⟩ := Option.bind_eq_some_iff.mp h
      by_cases h3 : x.2.2 = e
      · rw [if_pos h3] at h
        obtain ⟨R, hR, h⟩ := Option.bind_eq_some_iff.mp h
        by_cases h4 : R.2 = 1
        · rw [if_pos h4] at h; cases h; exact h30
        · rw [if_neg h4] at h; cases h
      · rw [if_neg h3] at h; cases h
    · rw [if_neg h2] at h; cases h
  · rw [if_neg h1] at h; cases h
/-- the request is done and answered -/
def Qpr (R : Res) (d op : Nat) (I : xIt) (J : xJt) (P : xPt) : xIt → xJt → xPt → Prop := fun I' J' P' => J = J' ∧ P = P' ∧ (∀ a j, a < 250 ∨ (a = 250 ∧ j ≤ 1) → I' a j = I a j) ∧ xRt I' R.2.1 ∧ I' 250 37 = upI R.2.2.1 ∧ I' 250 46 = nI R.1 ∧ I' 250 47 = nI R.2.2.2.1 ∧ xRo I' (R.2.2.2.2 ++ rsb d op R.1)
set_option maxRecDepth 20000 in
theorem c_RF_perform {d op f fd : Nat} {b : Option Nat} (hL : xL P) (hm : xMs I 251 m e) (he : e ≤ 153) (hfe : f ≤ e) (hi : inv D) (hT : xRt I D) (hbo : bok D b) (hfd12 : fd ≤ 12) (hfok : fok m op f e = true) (h66 : op ≠ 66) (hop : op < 256) (hp : pay m op f e I) (h9 : I 250 9 = nI op) (h8 : I 250 8 = nI d) (hd : d < 32768) (h37 : I 250 37 = upI b) (h47 : I 250 47 = nI fd) : xMet l V y_RF_perform 7 0 0 [xq (some 250)] xS0 I J P (xPv (Qpr (prf m e d op f D b fd) d op I J P)) := by
  have hb8 : ∀ j, j < e → m j < 256 := fun j hj => (hm j hj).2
  obtain ⟨p1, p2, p3, p4, p5, p6, p7⟩ := hp
  have hok := prf_ok (d := d) (op := op) (f := f) he hb8 hi hbo hfd12
  have h15 := rsb_15 d op (prf m e d op f D b fd).1
  -- the state in which the request is done
  have g0 : ∀ a j, ¬ (a = 250 ∧ j = 42) → xu I 250 42 0 a j = I a j := fun a j h => xu_other h
  have hO0 : xRo (xu I 250 42 0) [] := ⟨xu_at, by simp, fun i b hi => by simp at hi⟩
  have hT0 : xRt (xu I 250 42 0) D := hT.keep' (g0 250 27 (by omega)) (fun a j h1 h2 => g0 a j (by omega))
  have hm0 : xMs (xu I 250 42 0) 251 m e := fun j hj => ⟨(g0 251 j (by omega)).trans (hm j hj).1, (hm j hj).2⟩
  have h90 : xu I 250 42 0 250 9 = nI op := (g0 250 9 (by omega)).trans h9
  have h80 : xu I 250 42 0 250 8 = nI d := (g0 250 8 (by omega)).trans h8
  have h370 : xu I 250 42 0 250 37 = upI b := (g0 250 37 (by omega)).trans h37
  have h470 : xu I 250 42 0 250 47 = nI fd := (g0 250 47 (by omega)).trans h47
  -- the answer behind it
  have ansr : ∀ (g : Nat) (z : Int32) (I1 : xIt) (W : List Nat) (K : xIt → xJt → xPt → Prop), ans op = g → z = nI (prf m e d op f D b fd).1 → W = (prf m e d op f D b fd).2.2.2.2 → (∀ a j, a < 250 ∨ (a = 250 ∧ (j ≤ 1 ∨ j = 8 ∨ j = 9)) → I1 a j = I a j) → xRt I1 (prf m e d op f D b fd).2.1 → I1 250 37 = upI (prf m e d op f D b fd).2.2.1 → I1 250 47 = nI (prf m e d op f D b fd).2.2.2.1 → xRo I1 W → (∀ I2, I2 250 9 = nI op → Qpr (prf m e d op f D b fd) d op I J P I2 J P → K I2 J P) → ∃ Q2 : xIt → xJt → xPt → Prop, xMet l V y_RF_answer 4 0 0 [xq (some 250), xi (nI g), xi z] xS0 I1 J P (xPv Q2) ∧ ∀ (I2 : xIt) (J2 : xJt) (P2 : xPt), Q2 I2 J2 P2 → K I2 J2 P2 := by
    intro g z I1 W K hg hz hW hfr hT1 h371 h471 hO1 hK
    subst hg hz hW
    refine ⟨_, c_RF_answer hL hO1 hd ((hfr 250 8 (by omega)).trans h8) (by show ((prf m e d op f D b fd).2.2.2.2 ++ rsb d op (prf m e d op f D b fd).1).length ≤ 2048; rw [List.length_append]; omega), ?_⟩
    rintro I2 _ _ ⟨rfl, rfl, hs2, h46, hO2⟩
    refine hK I2 ((hs2 250 9 (by omega) (by omega) (by omega)).trans ((hfr 250 9 (by omega)).trans h9)) ⟨rfl, rfl, fun a j h => (hs2 a j (by omega) (by omega) (by omega)).trans (hfr a j (by omega)), hT1.keep' (hs2 250 27 (by omega) (by omega) (by omega)) (fun a j h1 h2 => hs2 a j (by omega) (by omega) (by omega)), (hs2 250 37 (by omega) (by omega) (by omega)).trans h371, h46, (hs2 250 47 (by omega) (by omega) (by omega)).trans h471, hO2⟩
  have hQ : ∀ I2, Qpr (prf m e d op f D b fd) d op I J P I2 J P → Qpr (prf m e d op f D b fd) d op I J P I2 J P := fun _ h => h
  -- what stands behind in the list of requests does nothing
  have skip114 : op ≠ 110 → op ≠ 99 → ∀ I2, I2 250 9 = nI op → Qpr (prf m e d op f D b fd) d op I J P I2 J P → G_RF_perform l V (Qpr (prf m e d op f D b fd) d op I J P) 114 [(0, xq (some 250))] [] I2 J P := by
    intro n1 n2 I2 h92 hq
    refine b_RF_perform_114 hL ?_
    rw [h92]
    exact (pk_eq op 110 (fun z => absurd z n1) (fun _ => (pk_eq op 99 (fun z => absurd z n2) (fun _ => hq)).symm)).symm
  have skip76 : op ≠ 110 → op ≠ 99 → op ≠ 102 → op ≠ 108 → ∀ I2, I2 250 9 = nI op → Qpr (prf m e d op f D b fd) d op I J P I2 J P → G_RF_perform l V (Qpr (prf m e d op f D b fd) d op I J P) 76 [(0, xq (some 250))] [] I2 J P := by
    intro n1 n2 n3 n4 I2 h92 hq
    refine b_RF_perform_76 hL ?_
    rw [h92]
    exact (pk_eq op 102 (fun z => absurd z n3) (fun _ => (pk_eq op 108 (fun z => absurd z n4) (fun _ => skip114 n1 n2 I2 h92 hq)).symm)).symm
  have skip38 : op ≠ 110 → op ≠ 99 → op ≠ 102 → op ≠ 108 → op ≠ 104 → op ≠ 74 → ∀ I2, I2 250 9 = nI op → Qpr (prf m e d op f D b fd) d op I J P I2 J P → G_RF_perform l V (Qpr (prf m e d op f D b fd) d op I J P) 38 [(0, xq (some 250))] [] I2 J P := by
    intro n1 n2 n3 n4 n5 n6 I2 h92 hq
    refine b_RF_perform_38 hL ?_
    rw [h92]
    exact (pk_eq op 104 (fun z => absurd z n5) (fun _ => (pk_eq op 74 (fun z => absurd z n6) (fun _ => skip76 n1 n2 n3 n4 I2 h92 hq)).symm)).symm
  -- from the editor's outcome
  have edq : ∀ (R : Nat ⊕ List Ent) (z : Int32) (I1 : xIt), prf m e d op f D b fd = edr D b fd R → Qad D b R (xu I 250 42 0) J P z I1 J P → z = nI (prf m e d op f D b fd).1 ∧ ([] : List Nat) = (prf m e d op f D b fd).2.2.2.2 ∧ (∀ a j, a < 250 ∨ (a = 250 ∧ (j ≤ 1 ∨ j = 8 ∨ j = 9)) → I1 a j = I a j) ∧ xRt I1 (prf m e d op f D b fd).2.1 ∧ I1 250 37 = upI (prf m e d op f D b fd).2.2.1 ∧ I1 250 47 = nI (prf m e d op f D b fd).2.2.2.1 ∧ xRo I1 [] := by
    rintro R z I1 hpr ⟨-, -, hs, h37', hm'⟩
    rw [hpr]
    have hfr : ∀ a j, a < 250 ∨ (a = 250 ∧ (j ≤ 1 ∨ j = 8 ∨ j = 9)) → I1 a j = I a j := fun a j h => (hs a j (by omega)).trans (g0 a j (by omega))
    have h47' : I1 250 47 = nI fd := (hs 250 47 (by omega)).trans h470
    have hO' : xRo I1 [] := ⟨(hs 250 42 (by omega)).trans hO0.1, by simp, fun i b hi => by simp at hi⟩
    cases R with
    | inl c => exact ⟨hm'.1, rfl, hfr, hm'.2, h37', h47', hO'⟩
    | inr D' => exact ⟨hm'.1, rfl, hfr, hm'.2, h37', h47', hO'⟩
  have rfq : ∀ (R : Nat × List Ent × Option Nat) (z : Int32) (I1 : xIt), prf m e d op f D b fd = (R.1, R.2.1, R.2.2, fd, []) → Qrf R (xu I 250 42 0) J P z I1 J P → z = nI (prf m e d op f D b fd).1 ∧ ([] : List Nat) = (prf m e d op f D b fd).2.2.2.2 ∧ (∀ a j, a < 250 ∨ (a = 250 ∧ (j ≤ 1 ∨ j = 8 ∨ j = 9)) → I1 a j = I a j) ∧ xRt I1 (prf m e d op f D b fd).2.1 ∧ I1 250 37 = upI (prf m e d op f D b fd).2.2.1 ∧ I1 250 47 = nI (prf m e d op f D b fd).2.2.2.1 ∧ xRo I1 [] := by
    rintro R z I1 hpr ⟨-, -, hs, hz, hT', h37'⟩
    rw [hpr]
    exact ⟨hz, rfl, fun a j h => (hs a j (by omega)).trans (g0 a j (by omega)), hT', h37', (hs 250 47 (by omega)).trans h470, ⟨(hs 250 42 (by omega)).trans hO0.1, by simp, fun i b hi => by simp at hi⟩⟩
  unfold fok at hfok
  rw [if_neg h66] at hfok
  refine e_RF_perform (b_RF_perform_0 hL ?_)
  rw [h9]
  refine (pk_eq op 66 (fun z => absurd z h66) (fun _ => (pk_eq op 96 (fun z => ?_) (fun n96 => ?_)).symm)).symm
  · rw [if_neg (by omega), if_pos z] at hfok
    cases hq : bf m f e with
    | none => rw [hq] at hfok; cases hfok
    | some q =>
      have ho := bf_ok hq
      obtain ⟨q1, q2, q3, q4, q5⟩ := p2 z q hq
      have hpr : prf m e d op f D b fd = ((bndm m D b q).1, D, (bndm m D b q).2, fd, []) := by unfold prf; rw [if_pos z, hq]
      refine ⟨_, c_RF_bind (v := q.1) (A := q.2.1) (C := q.2.2) hL hm0 he ho.1 (bf_30 hq) ho.2.1 ho.2.2 hi hT0 ((g0 250 10 (by omega)).trans q1) ((g0 250 12 (by omega)).trans q2) ((g0 250 13 (by omega)).trans q3) ((g0 250 16 (by omega)).trans q4) ((g0 250 17 (by omega)).trans q5) h370, ?_⟩
      intro z1 I1 J1 P1 hq1
      obtain ⟨rfl, rfl⟩ : J = J1 ∧ P = P1 := ⟨hq1.1, hq1.2.1⟩
      obtain ⟨e1, e2, e3, e4, e5, e6, e7⟩ := rfq _ z1 I1 hpr hq1
      exact ansr 97 z1 I1 [] _ (by rw [z]; rfl) e1 e2 e3 e4 e5 e6 e7 (skip38 (by omega) (by omega) (by omega) (by omega) (by omega) (by omega))
  refine b_RF_perform_38 hL ?_
  rw [h90]
  refine (pk_eq op 104 (fun z => ?_) (fun n104 => (pk_eq op 74 (fun z => ?_) (fun n74 => ?_)).symm)).symm
  · rw [if_neg (by omega), if_neg (by omega), if_neg (by omega), if_pos z] at hfok
    cases hq : af m f e with
    | none => rw [hq] at hfok; cases hfok
    | some q =>
      have ho := af_ok he hq
      have ho2 := af_30 hq
      obtain ⟨q1, q2, q3, q4⟩ := p4 z q hq
      rw [ho2.2.1] at q4
      have hpr : prf m e d op f D b fd = edr D b fd (addM m q.1 q.2.2 D) := by unfold prf; rw [if_neg (by omega), if_pos z, hq]
      refine ⟨_, c_RF_add (A := q.1) (b := b) hL hm0 he ho.1 ho2.1 ho2.2.2.1 ho2.2.2.2 hi hT0 ((g0 250 12 (by omega)).trans q1) ((g0 250 13 (by omega)).trans q2) ((g0 250 16 (by omega)).trans q3) ((g0 250 17 (by omega)).trans q4) h370, ?_⟩
      intro z1 I1 J1 P1 hq1
      obtain ⟨rfl, rfl⟩ : J = J1 ∧ P = P1 := ⟨hq1.1, hq1.2.1⟩
      obtain ⟨e1, e2, e3, e4, e5, e6, e7⟩ := edq _ z1 I1 hpr hq1
      refine ansr 105 z1 I1 [] (fun I4 J4 P4 => (¬ (I4 250 9) = 74 → G_RF_perform l V (Qpr (prf m e d op f D b fd) d op I J P) 76 [(0, xq (some 250))] [] I4 J4 P4) ∧ ((I4 250 9) = 74 → _)) (by rw [z]; rfl) e1 e2 e3 e4 e5 e6 e7 (fun I2 h92 hq2 => ?_)
      exact ⟨fun _ => skip76 (by omega) (by omega) (by omega) (by omega) I2 h92 hq2, fun h => absurd (h92.symm.trans h) (by rw [z]; decide)⟩
  · rw [if_pos z] at hfok
    have he30 : e - f ≤ 30 := of_decide_eq_true hfok
    obtain ⟨q1, q2⟩ := p1 z
    have hpr : prf m e d op f D b fd = ((delm m (f, e) D b).1, (delm m (f, e) D b).2.1, (delm m (f, e) D b).2.2, fd, []) := by unfold prf; rw [if_neg (by omega), if_neg (by omega), if_pos z]
    refine ⟨_, c_RF_delete (A := (f, e)) (b := b) hL hm0 he ⟨hfe, Nat.le_refl _⟩ he30 hi hT0 hbo ((g0 250 12 (by omega)).trans q1) ((g0 250 13 (by omega)).trans q2) h370, ?_⟩
    intro z1 I1 J1 P1 hq1
    obtain ⟨rfl, rfl⟩ : J = J1 ∧ P = P1 := ⟨hq1.1, hq1.2.1⟩
    obtain ⟨e1, e2, e3, e4, e5, e6, e7⟩ := rfq _ z1 I1 hpr hq1
    exact ansr 107 z1 I1 [] _ (by rw [z]; rfl) e1 e2 e3 e4 e5 e6 e7 (skip76 (by omega) (by omega) (by omega) (by omega))
  refine b_RF_perform_76 hL ?_
  rw [h90]
  refine (pk_eq op 102 (fun z => ?_) (fun n102 => (pk_eq op 108 (fun z => ?_) (fun n108 => ?_)).symm)).symm
  · rw [if_neg (by omega), if_neg (by omega), if_neg (by omega), if_neg (by omega), if_pos z] at hfok
    cases hq : mf m f e with
    | none => rw [hq] at hfok; cases hfok
    | some q =>
      have ho := mf_ok hq
      obtain ⟨q1, q2, q3, q4, q5, q6, q7⟩ := p5 z q hq
      rw [ho.2.2.2.2.2.2.1] at q7
      have hLv := ho.2.2.2.2.2.1
      rw [ho.2.2.2.2.2.2.1] at hLv
      have hpr : prf m e d op f D b fd = edr D b fd (modM m q.1 q.2.1 q.2.2.1 q.2.2.2.2 D) := by unfold prf; rw [if_neg (by omega), if_neg (by omega), if_neg (by omega), if_pos z, hq]
      refine ⟨_, c_RF_modify (A := q.1) (B := q.2.2.1) (b := b) hL hm0 he ho.1 (mf_30 hq) ho.2.2.1 ho.2.2.2.2.2.2.2 ho.2.1 hLv hi hT0 ((g0 250 11 (by omega)).trans q3) ((g0 250 12 (by omega)).trans q1) ((g0 250 13 (by omega)).trans q2) ((g0 250 14 (by omega)).trans q4) ((g0 250 15 (by omega)).trans q5) ((g0 250 16 (by omega)).trans q6) ((g0 250 17 (by omega)).trans q7) h370, ?_⟩
      intro z1 I1 J1 P1 hq1
      obtain ⟨rfl, rfl⟩ : J = J1 ∧ P = P1 := ⟨hq1.1, hq1.2.1⟩
      obtain ⟨e1, e2, e3, e4, e5, e6, e7⟩ := edq _ z1 I1 hpr hq1
      refine ansr 103 z1 I1 [] (fun I4 J4 P4 => (¬ (I4 250 9) = 108 → G_RF_perform l V (Qpr (prf m e d op f D b fd) d op I J P) 114 [(0, xq (some 250))] [] I4 J4 P4) ∧ ((I4 250 9) = 108 → _)) (by rw [z]; rfl) e1 e2 e3 e4 e5 e6 e7 (fun I2 h92 hq2 => ?_)
      exact ⟨fun _ => skip114 (by omega) (by omega) I2 h92 hq2, fun h => absurd (h92.symm.trans h) (by rw [z]; decide)⟩
  · rw [if_neg (by omega), if_neg (by omega), if_neg (by omega), if_neg (by omega), if_neg (by omega), if_pos z] at hfok
    cases hq : nf m f e with
    | none => rw [hq] at hfok; cases hfok
    | some q =>
      have ho := nf_ok hq
      have ho2 := nf_30 hb8 hq
      obtain ⟨q1, q2, q3, q4, q5⟩ := p6 z q hq
      have hpr : prf m e d op f D b fd = edr D b fd (renM m q.1 q.2.1 (!decide (q.2.2.1 = 0)) D) := by unfold prf; rw [if_neg (by omega), if_neg (by omega), if_neg (by omega), if_neg (by omega), if_pos z, hq]
      refine ⟨_, c_RF_rename (A := q.1) (B := q.2.1) (c := q.2.2.1) (b := b) hL hm0 he ho.1 ho2.1 ho.2 ho2.2.1 ho2.2.2 hi hT0 ((g0 250 11 (by omega)).trans q5) ((g0 250 12 (by omega)).trans q1) ((g0 250 13 (by omega)).trans q2) ((g0 250 14 (by omega)).trans q3) ((g0 250 15 (by omega)).trans q4) h370, ?_⟩
      intro z1 I1 J1 P1 hq1
      obtain ⟨rfl, rfl⟩ : J = J1 ∧ P = P1 := ⟨hq1.1, hq1.2.1⟩
      obtain ⟨e1, e2, e3, e4, e5, e6, e7⟩ := edq _ z1 I1 hpr hq1
      exact ansr 109 z1 I1 [] _ (by rw [z]; rfl) e1 e2 e3 e4 e5 e6 e7 (skip114 (by omega) (by omega))
  refine b_RF_perform_114 hL ?_
  rw [h90]
  refine (pk_eq op 110 (fun z => ?_) (fun n110 => (pk_eq op 99 (fun z => ?_) (fun n99 => ?_)).symm)).symm
  · rw [if_neg (by omega), if_neg (by omega), if_pos z] at hfok
    cases hq : cf m f e with
    | none => rw [hq] at hfok; cases hfok
    | some q =>
      have ho := cf_ok hq
      obtain ⟨q1, q2, q3, q4, q5, q6⟩ := p3 z q hq
      have hpr : prf m e d op f D b fd = (cmpM m q.1 q.2.1 q.2.2 D, D, b, fd, []) := by unfold prf; rw [if_neg (by omega), if_neg (by omega), if_neg (by omega), if_neg (by omega), if_neg (by omega), if_pos z, hq]
      refine ⟨_, c_RF_compare (A := q.1) (B := q.2.1) (C := q.2.2) (b := b) hL hm0 he ho.1 (cf_30 hq) ho.2.1 ho.2.2.1 ho.2.2.2 hi hT0 ((g0 250 12 (by omega)).trans q1) ((g0 250 13 (by omega)).trans q2) ((g0 250 14 (by omega)).trans q3) ((g0 250 15 (by omega)).trans q4) ((g0 250 16 (by omega)).trans q5) ((g0 250 17 (by omega)).trans q6) h370, ?_⟩
      intro z1 I1 J1 P1 hq1
      obtain ⟨rfl, rfl⟩ : J = J1 ∧ P = P1 := ⟨hq1.1, hq1.2.1⟩
      obtain ⟨e1, e2, e3, e4, e5, e6, e7⟩ := rfq _ z1 I1 hpr hq1
      refine ansr 111 z1 I1 [] (fun I4 J4 P4 => (¬ (I4 250 9) = 99 → Qpr (prf m e d op f D b fd) d op I J P I4 J4 P4) ∧ ((I4 250 9) = 99 → _)) (by rw [z]; rfl) e1 e2 e3 e4 e5 e6 e7 (fun I2 h92 hq2 => ?_)
      exact ⟨fun _ => hq2, fun h => absurd (h92.symm.trans h) (by rw [z]; decide)⟩
  · rw [if_neg (by omega), if_neg (by omega), if_neg (by omega), if_neg (by omega), if_neg (by omega), if_neg (by omega), if_pos z] at hfok
    cases hq : sf m f e with
    | none => rw [hq] at hfok; cases hfok
    | some q =>
      obtain ⟨q1, q2, q3, q4, q5, q6⟩ := p7 z q hq
      have hpr : prf m e d op f D b fd = ((srcM m e d q.1 q.2.1 q.2.2.1 q.2.2.2.1 D).1, D, b, (srcM m e d q.1 q.2.1 q.2.2.1 q.2.2.2.1 D).2.1, (srcM m e d q.1 q.2.1 q.2.2.1 q.2.2.2.1 D).2.2) := by unfold prf; rw [if_neg (by omega), if_neg (by omega), if_neg (by omega), if_neg (by omega), if_neg (by omega), if_neg (by omega), hq]
      refine ⟨_, c_RF_search (f := f) (d := d) hL hm0 he hi hT0 hq (sf_30 hq) hd h80 ((g0 250 10 (by omega)).trans q4) ((g0 250 11 (by omega)).trans q3) ((g0 250 12 (by omega)).trans q1) ((g0 250 13 (by omega)).trans q2) ((g0 250 16 (by omega)).trans q5) ((g0 250 17 (by omega)).trans q6) hO0, ?_⟩
      rintro z1 I1 _ _ ⟨rfl, rfl, hs1, hT1, hz1, h471, hO1⟩
      refine ansr 101 z1 I1 _ _ (by rw [z]; rfl) (by rw [hpr]; exact hz1) (by rw [hpr]) (fun a j h => (hs1 a j (by omega)).trans (g0 a j (by omega))) (by rw [hpr]; exact hT1) (by rw [hpr]; exact (hs1 250 37 (by omega)).trans h370) (by rw [hpr]; exact h471) (by rw [hpr] at *; exact hO1) (fun I2 _ hq2 => hq2)
  · exfalso
    rw [if_neg (by omega), if_neg (by omega), if_neg (by omega), if_neg (by omega), if_neg (by omega), if_neg (by omega), if_neg (by omega)] at hfok
    cases hfok
end XRT

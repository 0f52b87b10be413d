/-! the session: search -/
theorem bw_le {N : List Fi} : ∀ (n : Nat) {τ : Nat → Nat}, (∀ i, τ i ≤ 2) → ∀ i, bw N n τ i ≤ 2 := by
  intro n
  induction n with
  | zero => intro τ h i; exact h i
  | succ n ih => intro τ h i; rw [bw]; exact ih (bw_2 h n) i
section XDS2
variable {l : Launch} {V : xV} {I : xIt} {J : xJt} {P : xPt} {o : Nat → Nat} {D : List Ent} {m : Nat → Nat} {e : Nat}
def Qsr (R : Nat × Nat × List Nat) (I : xIt) (J : xJt) (P : xPt) : Int32 → xIt → xJt → xPt → Prop := fun r I' J' P' => P = P' ∧ (∀ b k, b ≠ 10 → b ≠ 12 → ¬ (b = 0 ∧ k = 4) → ¬ (b = 248 ∧ k = 1) → b ≠ 249 → I' b k = I b k) ∧ (∀ b k, b ≠ 11 → J' b k = J b k) ∧ r = nI R.1 ∧ I' 0 4 = nI R.2.1 ∧ xOt I' R.2.2
set_option maxRecDepth 20000 in
theorem c_DS_search {f d c p : Nat} {A : Nat × Nat} {lim : Int32} {N0 : List Fi} {z1 : Int32} (hL : xL P) (hm : xMs I 2 m e) (he : e ≤ 153) (hi : inv D) (hT : xTr I J P o D) (hsf : sf m f e = some (A, c, lim, p, N0)) (hF : xFl m I [A] N0) (hc : I 1 5 = nI c) (hlim : I 1 4 = lim) (hid : I 1 2 = nI d) (hd : d < 32768) (hO : xOt I []) (hn : xOp (nr m A.1 A.2) z1 (fun N => xNm I J 13 N)) : xMet l V y_DS_search 5 0 0 [xq (some 0), xi z1, xq ((whoO m A D).map o)] xS0 I J P (xPi (Qsr (srcM m e d A c lim p D) I J P)) := by
  have h12 := hT.2.1
  have hW := hi.1
  have hb : ∀ j, j < e → m j < 256 := fun j hj => (hm j hj).2
  obtain ⟨hA, hc2, hl0, ⟨R, hR, hR1, hRN⟩, hN12, hN1, hN75, hNf, hpe⟩ := sf_ok hb hsf
  simp only at hA hc2 hl0 hR hRN hN12 hN1 hN75 hNf hpe
  have hO0 : xOt (xu I 0 4 0) [] := ⟨(xu_other (by omega)).trans hO.1, hO.2.1, fun i b hi => by simp at hi⟩
  -- the walk over the entries
  have walk : ∀ (u : Option Nat), (∀ w, u = some w → w < D.length) → srcM m e d A c lim p D = srl D d (fun i x => isc D c u i x && mtc m x.1 p e) lim D.length 0 0 [] → ∃ Q1 : xIt → xJt → xPt → Prop, xMet l V y_FL_readLeaves 4 0 0 [xq (some 6), xq (P 0 5)] xS0 (xu I 0 4 0) J P (xPv Q1) ∧ ∀ I1 J1 P1, Q1 I1 J1 P1 → G_DS_search l V (Qsr (srcM m e d A c lim p D) I J P) 45 [(0, xq (some 0)), (1, xi z1), (2, xq (u.map o)), (3, xi 0)] [] I1 J1 P1 := by
    intro u hu hsr
    have hF0 : xFl m (xu I 0 4 0) [A] N0 := ⟨(xu_other (by omega)).trans hF.1, ⟨(xu_other (by omega)).trans hF.2.1.1, fun i q hi => ⟨(xu_other (by omega)).trans (hF.2.1.2 i q hi).1, (xu_other (by omega)).trans (hF.2.1.2 i q hi).2⟩⟩, fun i x hx => ⟨(xu_other (by omega)).trans (hF.2.2 i x hx).1, (xu_other (by omega)).trans (hF.2.2 i x hx).2.1, (xu_other (by omega)).trans (hF.2.2 i x hx).2.2⟩⟩
    rw [lp_0_5 hL]
    refine ⟨_, c_FL_readLeaves (T0 := [A]) hL (fun j hj => ⟨(xu_other (by omega)).trans (hm j hj).1, (hm j hj).2⟩) he hF0 hN12 hN75 (fun i x hx => (hNf i x hx).1), ?_⟩
    rintro I2 J2 _ ⟨rfl, hI2, hJ2, hlv⟩
    have loop : ∀ (k i fd : Nat) (W : List Nat) (I1 : xIt), i + k = D.length → fd ≤ i → W.length ≤ 146 * i → (∀ b k, b ≠ 12 → ¬ (b = 0 ∧ k = 4) → ¬ (b = 248 ∧ k = 1) → b ≠ 249 → I1 b k = I2 b k) → I1 0 4 = nI fd → xOt I1 W → srcM m e d A c lim p D = srl D d (fun i x => isc D c u i x && mtc m x.1 p e) lim k i fd W → G_DS_search l V (Qsr (srcM m e d A c lim p D) I J P) 45 [(0, xq (some 0)), (1, xi z1), (2, xq (u.map o)), (3, xi (nI i))] [] I1 J2 P := by
      intro k
      induction k with
      | zero =>
        intro i fd W I1 hik hfd hWl hI1 h04 hO1 hx
        have hT1 : xTr I1 J2 P o D := hT.keep (fun b j h1 h2 => (hI1 b j (by omega) (by omega) (by omega) (by omega)).trans ((hI2 b j (by omega)).trans (xu_other (by omega)))) (fun b j h1 h2 => hJ2 b j (by omega)) (fun _ _ _ _ => rfl)
        refine b_DS_search_45 hL (pk_le D.length i (fun _ => ⟨rfl, fun b j h1 h2 h3 h4 h5 => (hI1 b j h2 h3 h4 h5).trans ((hI2 b j h1).trans (xu_other h3)), hJ2, ?_⟩) (fun z => by omega) hT1.1)
        rw [hx, srl]
        exact ⟨rfl, h04, hO1⟩
      | succ k ih =>
        intro i fd W I1 hik hfd hWl hI1 h04 hO1 hx
        have hT1 : xTr I1 J2 P o D := hT.keep (fun b j h1 h2 => (hI1 b j (by omega) (by omega) (by omega) (by omega)).trans ((hI2 b j (by omega)).trans (xu_other (by omega)))) (fun b j h1 h2 => hJ2 b j (by omega)) (fun _ _ _ _ => rfl)
        obtain ⟨x, hxi⟩ : ∃ x, D[i]? = some x := ⟨_, List.getElem?_eq_getElem (by omega)⟩
        have hwx := hW i x hxi
        have hoi := hT.2.2.1 i (by omega)
        have hE1 := hT1.2.2.2.2 i x hxi
        have hc1 : I1 1 5 = nI c := (hI1 1 5 (by omega) (by omega) (by omega) (by omega)).trans ((hI2 1 5 (by omega)).trans ((xu_other (by omega)).trans hc))
        have hlim1 : I1 1 4 = lim := (hI1 1 4 (by omega) (by omega) (by omega) (by omega)).trans ((hI2 1 4 (by omega)).trans ((xu_other (by omega)).trans hlim))
        have hid1 : I1 1 2 = nI d := (hI1 1 2 (by omega) (by omega) (by omega) (by omega)).trans ((hI2 1 2 (by omega)).trans ((xu_other (by omega)).trans hid))
        rw [srl, hxi] at hx
        simp only at hx
        refine b_DS_search_45 hL (pk_le D.length i (fun z => by omega) (fun _ => ⟨pk_in i 12 (by omega), ?_⟩) hT1.1)
        rw [ncl i, hoi.1, nI_1]
        refine ⟨_, c_DS_inScope hL hT1 hW hc1 hc2 hxi hu, ?_⟩
        rintro w I3 _ _ ⟨rfl, rfl, rfl, rfl⟩
        by_cases hs : isc D c u i x = true
        · rw [if_pos hs]
          refine ⟨fun z => absurd z (by decide), fun _ => ⟨_, c_FL_truthFor (m := m) (A := x.1) (N := N0) (e := e) hL hoi.2.1 hE1 (fun t ht => (hwx.1.1 t ht).1) hN12 hN1 ?_ (fun j y hy => ?_) (fun j y hy hh => ?_) hb, ?_⟩⟩
          · exact (hI1 6 6 (by omega) (by omega) (by omega) (by omega)).trans ((hI2 6 6 (by omega)).trans hF0.1)
          · have h7 := hF0.2.2 j y hy
            have hf := hNf j y hy
            exact ⟨(hI1 7 j (by omega) (by omega) (by omega) (by omega)).trans ((hI2 7 j (by omega)).trans h7.1), (hI1 8 j (by omega) (by omega) (by omega) (by omega)).trans ((hI2 8 j (by omega)).trans h7.2.1), hf.1.1, hf.2, hf.1.2.1⟩
          · have h7 := hlv j y hy hh
            exact ⟨(hI1 10 j (by omega) (by omega) (by omega) (by omega)).trans h7.1, h7.2⟩
          rintro w I3 _ _ ⟨rfl, rfl, hI3, rfl⟩
          have hI13 : ∀ b k, b ≠ 12 → ¬ (b = 0 ∧ k = 4) → ¬ (b = 248 ∧ k = 1) → b ≠ 249 → I3 b k = I2 b k := fun b k h1 h2 h3 h4 => (hI3 b k h1).trans (hI1 b k h1 h2 h3 h4)
          have h043 : I3 0 4 = nI fd := (hI3 0 4 (by omega)).trans h04
          have hO3 : xOt I3 W := ⟨(hI3 248 1 (by omega)).trans hO1.1, hO1.2.1, fun j b hj => (hI3 249 j (by omega)).trans (hO1.2.2 j b hj)⟩
          have hmt : mtc m x.1 p e = decide (bw N0 N0.length (tau m x.1 N0) 0 = 2) := by
            unfold mtc
            rw [bw_root hR hR1, hRN]
            simp
          have hb2 : bw N0 N0.length (tau m x.1 N0) 0 ≤ 2 := bw_le _ (fun _ => tau_2) 0
          refine (pk_eq (bw N0 N0.length (tau m x.1 N0) 0) 2 (fun z => ?_) (fun z => ?_)).symm
          · rw [hs, hmt, decide_eq_true z] at hx
            simp only [Bool.and_self, if_true] at hx
            have t119 : ¬ (¬ lim = 0 ∧ nI fd = lim) → G_DS_search l V (Qsr (srcM m e d A c lim p D) I J P) 119 [(0, xq (some 0)), (1, xi z1), (2, xq (u.map o)), (3, xi (nI i)), (4, xq (some (o i)))] [] I3 J2 P := by
              intro hno
              rw [if_neg hno] at hx
              have hen := enb_146 (d := d) (e := i) hW hwx.1 (hi.2.2.1 i x hxi).1
              refine b_DS_search_119 hL ?_
              rw [hI3 1 2 (by omega), hid1, nI_1]
              refine ⟨_, c_AN_writeEntry hL hO3 (hT1.keep (fun b j h1 h2 => hI3 b j (by omega)) (fun _ _ _ _ => rfl) (fun _ _ _ _ => rfl)) hW hxi hd (rwb_88 hwx.1 (hi.2.2.1 i x hxi).1) (by rw [List.length_append]; omega), ?_⟩
              rintro I4 _ _ ⟨rfl, rfl, hs4, hO4⟩
              have h044 : I4 0 4 = nI fd := (hs4 0 4 (by omega) (by omega)).trans h043
              rw [h044, nI_1]
              refine ih (i + 1) (fd + 1) _ _ (by omega) (by omega) (by rw [List.length_append]; omega) (fun b j h1 h2 h3 h4 => (xu_other h2).trans ((hs4 b j h3 h4).trans (hI13 b j h1 h2 h3 h4))) xu_at ⟨(xu_other (by omega)).trans hO4.1, hO4.2.1, fun j b hj => (xu_other (by omega)).trans (hO4.2.2 j b hj)⟩ hx
            rw [hI3 1 4 (by omega), hlim1, h043]
            refine ⟨fun z0 => t119 (fun h => h.1 z0), fun z0 => ⟨fun z4 => t119 (fun h => z4 h.2), fun z4 => ?_⟩⟩
            rw [if_pos ⟨z0, z4⟩] at hx
            refine ⟨rfl, fun b j h1 h2 h3 h4 h5 => (hI13 b j h2 h3 h4 h5).trans ((hI2 b j h1).trans (xu_other h3)), hJ2, ?_⟩
            rw [hx]
            exact ⟨rfl, h043, hO3⟩
          · rw [hmt, decide_eq_false z, Bool.and_false, if_neg (by decide)] at hx
            exact ih (i + 1) fd W I3 (by omega) (by omega) (by omega) hI13 h043 hO3 hx
        · rw [if_neg hs]
          rw [Bool.not_eq_true] at hs
          rw [hs, Bool.false_and, if_neg (by decide)] at hx
          exact ⟨fun _ => ih (i + 1) fd W I1 (by omega) (by omega) (by omega) hI1 h04 hO1 hx, fun z => absurd rfl z⟩
    exact loop D.length 0 0 [] I2 (by omega) (by omega) (by simp) (fun _ _ _ _ _ _ => rfl) ((hI2 0 4 (by omega)).trans xu_at) ⟨(hI2 248 1 (by omega)).trans hO0.1, by simp, fun i b hi => by simp at hi⟩ hsr
  have hQ0 : ∀ c', srcM m e d A c lim p D = (c', 0, []) → Qsr (srcM m e d A c lim p D) I J P (nI c') (xu I 0 4 0) J P := by
    intro c' hc'
    rw [hc']
    exact ⟨rfl, fun b k h1 h2 h3 h4 h5 => xu_other h3, fun _ _ _ => rfl, rfl, xu_at, hO0⟩
  refine e_DS_search (b_DS_search_0 hL ?_)
  cases hnr : nr m A.1 A.2 with
  | none =>
    rw [hnr] at hn
    have hn : z1 = 0 := hn
    subst hn
    refine ⟨fun z => absurd rfl z, fun _ => hQ0 34 ?_⟩
    unfold srcM; rw [hnr]
  | some N =>
    rw [hnr] at hn
    obtain ⟨rfl, hN⟩ := hn
    refine ⟨fun _ => ?_, fun z => absurd z (by decide)⟩
    cases hfd : fdn D N with
    | none =>
      have hwho : whoO m A D = none := by unfold whoO; rw [hnr]; simp only [hfd]; rfl
      rw [hwho]
      have hN0 : N ≠ [] := fun h => by rw [h] at hfd; cases hfd
      have hNl : N.length ≠ 0 := fun h => hN0 (List.eq_nil_of_length_eq_zero h)
      have hN3 := (nr_ok (fun j hj => hb j (by omega)) hnr).1
      refine ⟨fun z => absurd rfl z, fun _ => pk_le N.length 0 (fun z => absurd (by omega) hNl) (fun _ => hQ0 32 ?_) hN.1⟩
      unfold srcM; rw [hnr]; simp only [hfd]
    | some u =>
      have hsr : srcM m e d A c lim p D = srl D d (fun i x => isc D c u i x && mtc m x.1 p e) lim D.length 0 0 [] := by unfold srcM; rw [hnr]; simp only [hfd]
      have hwho : whoO m A D = u := by unfold whoO; rw [hnr]; simp only [hfd]; rfl
      have hul : ∀ w, u = some w → w < D.length := fun w hw => by rw [hw] at hfd; exact fdn_lt hfd
      rw [hwho]
      cases u with
      | none =>
        have hN0 : N = [] := by
          cases N with
          | nil => rfl
          | cons p r => obtain ⟨c, hc⟩ := fdn_cons hfd; cases hc
        subst hN0
        exact ⟨fun z => absurd rfl z, fun _ => pk_le 0 0 (fun _ => walk none hul hsr) (fun z => by omega) hN.1⟩
      | some w => exact ⟨fun _ => walk (some w) hul hsr, fun z => by cases z⟩
end XDS2

/-! the editor: what it leaves alone, adding an entry -/
/-- nothing changed but the tree and the editor -/
def xSd (I I' : xIt) (J J' : xJt) (P P' : xPt) : Prop := (∀ b k, b < 21 ∨ 248 ≤ b → I' b k = I b k) ∧ (∀ b k, b < 21 ∨ 248 ≤ b → J' b k = J b k) ∧ ∀ b k, b < 21 ∨ 248 ≤ b → P' b k = P b k
theorem xSd.rfl {I : xIt} {J : xJt} {P : xPt} : xSd I I J J P P := ⟨fun _ _ _ => Eq.refl _, fun _ _ _ => Eq.refl _, fun _ _ _ => Eq.refl _⟩
theorem xSd.trans {I I1 I2 : xIt} {J J1 J2 : xJt} {P P1 P2 : xPt} (h : xSd I I1 J J1 P P1) (h2 : xSd I1 I2 J1 J2 P1 P2) : xSd I I2 J J2 P P2 := ⟨fun b k hb => (h2.1 b k hb).trans (h.1 b k hb), fun b k hb => (h2.2.1 b k hb).trans (h.2.1 b k hb), fun b k hb => (h2.2.2 b k hb).trans (h.2.2 b k hb)⟩
theorem xSd.en {x : Nat} {r : Option Nat} {I I1 : xIt} {J J1 : xJt} {P : xPt} (hx : xS0[x]? = some (5, 0)) (h : xSe x I I1 J J1) : xSd I I1 J J1 P (xu P x 1 r) := by
  have h1 := ent0 x (x_lt0 hx) hx
  exact ⟨fun b k hb => h.1 b k (by omega), fun b k hb => h.2 b k (by omega), fun b k hb => xu_other (by omega)⟩
theorem xSd.en' {x : Nat} {I I1 : xIt} {J J1 : xJt} {P : xPt} (hx : xS0[x]? = some (5, 0)) (h : xSe x I I1 J J1) : xSd I I1 J J1 P P := by
  have h1 := ent0 x (x_lt0 hx) hx
  exact ⟨fun b k hb => h.1 b k (by omega), fun b k hb => h.2 b k (by omega), fun b k hb => Eq.refl _⟩
theorem xSd.row {a : Nat} {I I1 : xIt} {J J1 : xJt} {P : xPt} (ha : xS0[a]? = some (6, 0)) (h : xSr a I I1 J J1) : xSd I I1 J J1 P P := by
  have h1 := vr_25 a (x_lt0 ha) ha
  exact ⟨fun b k hb => h.1 b k (by omega), fun b k hb => h.2 b k (by omega) (by omega), fun b k hb => Eq.refl _⟩
theorem xTr.keep {I I' : xIt} {J J' : xJt} {P P' : xPt} {o : Nat → Nat} {D : List Ent} (h : xTr I J P o D) (hI : ∀ b k, 21 ≤ b → b < 227 → I' b k = I b k) (hJ : ∀ b k, 21 ≤ b → b < 227 → J' b k = J b k) (hP : ∀ b k, 21 ≤ b → b < 227 → P' b k = P b k) : xTr I' J' P' o D := by
  refine ⟨(hI 21 1 (by omega) (by omega)).trans h.1, h.2.1, fun i hi => ⟨(hP 22 i (by omega) (by omega)).trans (h.2.2.1 i hi).1, (h.2.2.1 i hi).2⟩, h.2.2.2.1, fun i x hx => ?_⟩
  have h12 := h.2.1
  have hl := (List.getElem?_eq_some_iff.mp hx).1
  have ho := h.2.2.1 i (by omega)
  have h1 := ent0 _ (x_lt0 ho.2.1) ho.2.1
  have h3 := ho.2.2
  exact (h.2.2.2.2 i x hx).far (fun b k h4 h5 => hI b k (by omega) (by omega)) (fun b k h4 h5 => hJ b k (by omega) (by omega)) (hP _ _ (by omega) (by omega))
def Qed (o : Nat → Nat) (D : List Ent) (R : Nat ⊕ List Ent) (I : xIt) (J : xJt) (P : xPt) : Int32 → xIt → xJt → xPt → Prop := fun r I' J' P' => xL P' ∧ xSd I I' J J' P P' ∧ match R with
  | .inl c => r = nI c ∧ xTr I' J' P' o D
  | .inr D' => r = 0 ∧ xTr I' J' P' o D'
theorem Qed.far {o : Nat → Nat} {D : List Ent} {R : Nat ⊕ List Ent} {I I1 : xIt} {J J1 : xJt} {P P1 : xPt} (h0 : xSd I I1 J J1 P P1) {r : Int32} {I2 : xIt} {J2 : xJt} {P2 : xPt} (h : Qed o D R I1 J1 P1 r I2 J2 P2) : Qed o D R I J P r I2 J2 P2 := ⟨h.1, h0.trans h.2.1, h.2.2⟩
def setA (A : Nat → List Vl) (t : Nat) (R : List Vl) : Nat → List Vl := fun i => if i = t then R else A i
theorem setA_at {A : Nat → List Vl} {t : Nat} {R : List Vl} : setA A t R t = R := if_pos rfl
theorem setA_ne {A : Nat → List Vl} {t i : Nat} {R : List Vl} (h : i ≠ t) : setA A t R i = A i := if_neg h
/-- the rows of a new entry, up to the first attribute that is wrong -/
def adv (m : Nat → Nat) : List ((Nat × Nat) × List (Nat × Nat)) → (Nat → List Vl) → Nat ⊕ (Nat → List Vl)
  | [], A => .inr A
  | x :: r, A => match tyx m x.1 with
    | none => .inl 17
    | some t => if (A t).length = 0 then (match rdv m t x.2 [] with
      | .inl c => .inl c
      | .inr R => if R.length ≤ mo t then adv m r (setA A t R) else .inl 19) else .inl 20
/-- an entry with the name N and the rows A comes to D -/
def adn (D : List Ent) (N : List (Nat × List Nat × List Nat)) (A : Nat → List Vl) : Nat ⊕ List Ent := match N with
  | [] => .inl 68
  | p :: r => if (fdn D (p :: r)).isSome = true then .inl 68 else match fdn D r with
    | none => .inl 32
    | some u => if D.length = 12 then .inl 53 else if fitb A = true then (if hs (A p.1) p.2.2 = true then .inr (D ++ [(A, p.1, p.2.2, u)]) else .inl 64) else .inl 65
def addm (m : Nat → Nat) (D : List Ent) (N : List (Nat × List Nat × List Nat)) (t : List ((Nat × Nat) × List (Nat × Nat))) : Nat ⊕ List Ent := match adv m t (fun _ => []) with
  | .inl c => .inl c
  | .inr A => adn D N A
theorem fdn_cons {D : List Ent} {p : Nat × List Nat × List Nat} {r : List (Nat × List Nat × List Nat)} {u : Option Nat} (h : fdn D (p :: r) = some u) : ∃ c, u = some c := by
  rw [fdn] at h
  obtain ⟨w, hw, h⟩ := Option.bind_eq_some_iff.mp h
  obtain ⟨j, hj, h⟩ := Option.map_eq_some_iff.mp h
  exact ⟨j, h.symm⟩
theorem nI_m1 {t : Nat} (h : t < 2147483648) : nI t ≠ -1 := fun z => absurd (nI_pos (n := t) (by omega)) (by rw [z]; exact fun w => w (by decide))
theorem tyx_5 {m : Nat → Nat} {q : Nat × Nat} {t : Nat} (h : tyx m q = some t) : t < 5 := by
  unfold tyx at h
  by_cases hc : q.2 - q.1 = 1
  · rw [if_pos hc] at h
    have := (List.findIdx?_eq_some_iff_findIdx_eq.mp h).1
    simpa [tyk] using this
  · rw [if_neg hc] at h; cases h
section XED2
variable {l : Launch} {V : xV} {I : xIt} {J : xJt} {P : xPt} {o : Nat → Nat} {D : List Ent} {m : Nat → Nat} {e : Nat}
set_option maxRecDepth 20000 in
theorem c_EN_clear2 {x : Nat} (hL : xL P) (hx : xS0[x]? = some (5, 0)) : xMet l V y_EN_clear 2 0 0 [xq (some x)] xS0 I J P (xPv (fun I' J' P' => P' = xu P x 1 none ∧ xSe x I I' J J' ∧ ∀ t, t < 5 → xRw I' J' (x + 2 + 3 * t) [])) := by
  have loop : ∀ (k t : Nat) (I1 : xIt) (J1 : xJt), t + k = 5 → xSe x I I1 J J1 → (∀ i, i < t → xRw I1 J1 (x + 2 + 3 * i) []) → G_EN_clear l V (fun I' J' P' => P' = xu P x 1 none ∧ xSe x I I' J J' ∧ ∀ t, t < 5 → xRw I' J' (x + 2 + 3 * t) []) 2 [(0, xq (some x)), (1, xi (nI t))] [] I1 J1 P := by
    intro k
    induction k with
    | zero =>
      intro t I1 J1 ht hs hd
      refine b_EN_clear_2 hL hx (pk_le 5 t (fun _ => ⟨xL_up hL hx, rfl, hs, fun i hi => hd i (by omega)⟩) (fun z => by omega))
    | succ k ih =>
      intro t I1 J1 ht hs hd
      have hr := en_row hL hx (show t < 5 by omega)
      refine b_EN_clear_2 hL hx (pk_le 5 t (fun z => by omega) (fun _ => ⟨pk_in t 5 (by omega), x + 2 + 3 * t, ?_⟩))
      rw [pk_cl t, nI_1]
      refine ⟨hr.1, hr.2, _, c_VR_clear hL hr.2, ?_⟩
      rintro I3 J3 _ ⟨rfl, hs3, hr3⟩
      refine ih (t + 1) I3 J3 (by omega) (hs.row (by omega) hs3) (fun i hi => ?_)
      by_cases hit : i = t
      · subst hit; exact hr3
      · exact (hd i (by omega)).far (by omega) hr.2 (en_row hL hx (show i < 5 by omega)).2 hs3
  exact e_EN_clear (b_EN_clear_0 hL hx (loop 5 0 I J rfl xSe.rfl (fun i hi => by omega)))
set_option maxRecDepth 20000 in
theorem c_ED_addCandidate {N : List (Nat × List Nat × List Nat)} {A : Nat → List Vl} (hL : xL P) (hT : xTr I J P o D) (hW : wf D) (hN : xNm I J 13 N) (hp : wfp N) (hA : ∀ t, t < 5 → wfr t (A t)) (hR : ∀ t, t < 5 → xRw I J (230 + 3 * t) (pkr (A t))) : xMet l V y_ED_addCandidate 5 0 0 [xq (some 227), xq (some 13), xq (some 21)] xS0 I J P (xPi (Qed o D (adn D N A) I J P)) := by
  have h12 := hT.2.1
  have h3 := hp.1
  refine e_ED_addCandidate (b_ED_addCandidate_0 hL ⟨13, rfl, s0_13, ?_⟩)
  cases N with
  | nil => exact pk_eq 0 0 (fun _ => ⟨hL, xSd.rfl, rfl, hT⟩) (fun z => absurd rfl z) hN.1
  | cons p r =>
    have hpp := hp.2 p (by simp)
    have hN0 := hN.2 0 p rfl
    refine pk_eq (p :: r).length 0 (fun z => by simp at z) (fun _ => ⟨21, rfl, s0_21, _, c_TR_find (f := 0) hL hT hW s0_13 hN hp (by omega), ?_⟩) hN.1
    rintro w I1 _ _ ⟨rfl, rfl, rfl, rfl⟩
    cases hfd : fdn D (p :: r) with
    | some u =>
      obtain ⟨c, rfl⟩ := fdn_cons hfd
      rw [List.drop_zero, hfd]
      refine ⟨fun z => (by cases z), fun _ => ⟨hL, xSd.rfl, ?_⟩⟩
      rw [adn, hfd]
      exact ⟨rfl, hT⟩
    | none =>
      rw [List.drop_zero, hfd]
      refine ⟨fun _ => ⟨_, c_TR_find (f := 1) hL hT hW s0_13 hN hp (by omega), ?_⟩, fun z => absurd rfl z⟩
      rintro w I1 _ _ ⟨rfl, rfl, rfl, rfl⟩
      have hd1 : (p :: r).drop 1 = r := rfl
      rw [hd1]
      refine ⟨xL_up hL s0_228, 228, lp_227_0 hL, s0_228, _, c_EN_takeNamePart (xL_up hL s0_228) s0_228 s0_13, ?_⟩
      rintro I7 J7 P7 ⟨rfl, rfl, rfl⟩
      have hL7 : xL (xu P 228 1 (((fdn D r).bind id).map o)) := xL_up hL s0_228
      have hT7 : xTr (xu I 228 2 (I (13 + 1) 0)) (xu J 228 3 (J (13 + 3) 0)) (xu P 228 1 (((fdn D r).bind id).map o)) o D := hT.keep (fun b k h1 h2 => xu_other (by omega)) (fun b k h1 h2 => xu_other (by omega)) (fun b k h1 h2 => xu_other (by omega))
      have hS7 : xSd I (xu I 228 2 (I (13 + 1) 0)) J (xu J 228 3 (J (13 + 3) 0)) P (xu P 228 1 (((fdn D r).bind id).map o)) := ⟨fun b k h1 => xu_other (by omega), fun b k h1 => xu_other (by omega), fun b k h1 => xu_other (by omega)⟩
      have tail : ∀ u, fdn D r = some u → G_ED_addCandidate l V (Qed o D (adn D (p :: r) A) I J P) 61 [(0, xq (some 227)), (1, xq (some 13)), (2, xq (some 21))] [] (xu I 228 2 (I (13 + 1) 0)) (xu J 228 3 (J (13 + 3) 0)) (xu P 228 1 (((fdn D r).bind id).map o)) := by
        intro u hu
        have hadn : adn D (p :: r) A = if D.length = 12 then .inl 53 else if fitb A = true then (if hs (A p.1) p.2.2 = true then .inr (D ++ [(A, p.1, p.2.2, u)]) else .inl 64) else .inl 65 := by rw [adn, hfd, hu]; rfl
        have hE : xEn (xu I 228 2 (I (13 + 1) 0)) (xu J 228 3 (J (13 + 3) 0)) (xu P 228 1 (((fdn D r).bind id).map o)) 228 (fun t => pkr (A t)) p.1 (pkd p.2.2) (u.map o) := by
          refine ⟨fun t ht => ?_, ?_, by omega, ?_, ?_⟩
          · have h := hR t ht
            exact ⟨(xu_other (by omega)).trans h.1, h.2.1, fun j z hj => ⟨(xu_other (by omega)).trans (h.2.2 j z hj).1, (xu_other (by omega)).trans (h.2.2 j z hj).2⟩⟩
          · rw [xu_at]; exact hN0.1
          · rw [xu_at]; exact hN0.2.2
          · rw [xu_at, hu]; rfl
        refine b_ED_addCandidate_61 hL7 ⟨21, rfl, s0_21, _, c_TR_isFull hL7 hT7, ?_⟩
        rintro w I1 _ _ ⟨rfl, rfl, rfl, rfl⟩
        rw [hadn]
        by_cases hf : D.length = 12
        · rw [if_pos hf, if_pos hf]
          exact ⟨fun z => absurd z (by decide), fun _ => ⟨hL7, hS7, rfl, hT7⟩⟩
        rw [if_neg hf, if_neg hf]
        refine ⟨fun _ => ⟨_, c_EN_fitsSchema hL7 s0_228 hE (hA 0 (by omega)).1, ?_⟩, fun z => absurd rfl z⟩
        rintro w I1 _ _ ⟨rfl, rfl, rfl, rfl⟩
        by_cases hfi : fitb A = true
        · rw [if_pos hfi, if_pos hfi]
          refine ⟨fun _ => ⟨_, c_EN_hasItsNamePart hL7 s0_228 hE, ?_⟩, fun z => absurd z (by decide)⟩
          rintro w I1 _ _ ⟨rfl, rfl, rfl, rfl⟩
          rw [show ((fun t => pkr (A t)) p.1).any (fun y => y.2 == pkd p.2.2) = hs (A p.1) p.2.2 from pkr_any (po_ok hpp.2.1 hpp.2.2.1 hpp.2.2.2) (hA p.1 (by omega)).1]
          by_cases hh : hs (A p.1) p.2.2 = true
          · rw [if_pos hh, if_pos hh, lp_227_0 hL7]
            have ho := hT.2.2.1 D.length (by omega)
            have h23 := ent0 _ (x_lt0 ho.2.1) ho.2.1
            refine ⟨fun _ => ⟨_, c_TR_addCopy (x := (A, p.1, p.2.2, u)) hL7 hT7 (by omega) hA hE, ?_⟩, fun z => absurd z (by decide)⟩
            rintro I3 J3 P3 ⟨rfl, hs3, hT3⟩
            exact ⟨xL_up hL7 ho.2.1, hS7.trans ⟨fun b k hb => hs3.1 b k (by omega) (by omega), fun b k hb => hs3.2 b k (by omega), fun b k hb => xu_other (by omega)⟩, rfl, hT3⟩
          · rw [if_neg hh, if_neg hh]
            exact ⟨fun z => absurd rfl z, fun _ => ⟨hL7, hS7, rfl, hT7⟩⟩
        · rw [if_neg hfi, if_neg hfi]
          exact ⟨fun z => absurd rfl z, fun _ => ⟨hL7, hS7, rfl, hT7⟩⟩
      have h1i : xu I 228 2 (I (13 + 1) 0) 13 3 = nI (p :: r).length := (xu_other (by omega)).trans hN.1
      refine ⟨fun z => ?_, fun z => ?_⟩
      · cases hu : fdn D r with
        | none => rw [hu] at z; exact absurd xu_at z
        | some u => rw [← hu]; exact tail u hu
      · refine pk_le (p :: r).length 1 (fun z2 => ?_) (fun z2 => ?_) h1i
        · have hr0 : r = [] := List.eq_nil_of_length_eq_zero (by rw [List.length_cons] at z2; omega)
          exact tail none (by rw [hr0]; rfl)
        · cases hu : fdn D r with
          | none =>
            rw [hu] at hL7 hS7 hT7
            refine ⟨hL7, hS7, ?_⟩
            rw [adn, hfd, hu]
            exact ⟨rfl, hT7⟩
          | some u =>
            exfalso
            rw [xu_at, hu] at z
            cases r with
            | nil => simp at z2
            | cons p2 r2 =>
              obtain ⟨c, rfl⟩ := fdn_cons hu
              cases z
set_option maxRecDepth 20000 in
theorem c_ED_add {N : List (Nat × List Nat × List Nat)} {q0 : Nat × Nat} {t0 : List ((Nat × Nat) × List (Nat × Nat))} (hL : xL P) (hm : xMs I 2 m e) (he : e ≤ 153) (hTx : xTx I (q0 :: fla t0)) (hC : xAc I (t0.map (fun x => x.2.length))) (hl : (q0 :: fla t0).length ≤ 75) (h18 : t0.length ≤ 18) (hq : ∀ x ∈ t0, (x.1.1 ≤ x.1.2 ∧ x.1.2 ≤ e) ∧ x.2.length ≤ 8 ∧ ∀ q ∈ x.2, q.1 ≤ q.2 ∧ q.2 ≤ e) (hT : xTr I J P o D) (hW : wf D) (hN : xNm I J 13 N) (hp : wfp N) : xMet l V y_ED_add 6 0 0 [xq (some 227), xq (some 1), xq (some 13), xq (some 21)] xS0 I J P (xPi (Qed o D (addm m D N t0) I J P)) := by
  have hL0 : xL (xu P 228 1 none) := xL_up hL s0_228
  have fla_app : ∀ a b : List ((Nat × Nat) × List (Nat × Nat)), fla (a ++ b) = fla a ++ fla b := fun a b => by simp [fla]
  have loop : ∀ (n k : Nat) (A : Nat → List Vl) (I1 : xIt) (J1 : xJt), k + n = t0.length → xSe 228 I I1 J J1 → (∀ t, t < 5 → wfr t (A t)) → (∀ t, t < 5 → xRw I1 J1 (230 + 3 * t) (pkr (A t))) → adv m t0 (fun _ => []) = adv m (t0.drop k) A → G_ED_add l V (Qed o D (addm m D N t0) I J P) 13 [(0, xq (some 227)), (1, xq (some 1)), (2, xq (some 13)), (3, xq (some 21)), (4, xi (nI (1 + (fla (t0.take k)).length))), (5, xi (nI k))] [] I1 J1 (xu P 228 1 none) := by
    intro n
    induction n with
    | zero =>
      intro k A I1 J1 hk hS hA hR hx
      have hSd : xSd I I1 J J1 P (xu P 228 1 none) := xSd.en s0_228 hS
      refine b_ED_add_13 hL0 ⟨1, rfl, s0_1, ?_⟩
      refine pk_le (t0.map (fun x => x.2.length)).length k (fun _ => ⟨_, c_ED_addCandidate (N := N) (A := A) hL0 (hT.keep (fun b j h1 h2 => hS.1 b j (by omega)) (fun b j h1 h2 => hS.2 b j (by omega)) (fun b j h1 h2 => xu_other (by omega))) hW ?_ hp hA hR, ?_⟩) (fun z => by simp at z; omega) ((hS.1 1 11 (by omega)).trans hC.1) rfl (by simp; omega) (by omega)
      · exact ⟨(hS.1 13 3 (by omega)).trans hN.1, fun i x hi => ⟨(hS.1 _ _ (by omega)).trans (hN.2 i x hi).1, (hS.2 _ _ (by omega)).trans (hN.2 i x hi).2.1, (hS.2 _ _ (by omega)).trans (hN.2 i x hi).2.2⟩⟩
      · intro r I2 J2 P2 h
        rw [addm, hx, List.drop_eq_nil_of_le (by omega)]
        exact h.far hSd
    | succ n ih =>
      intro k A I1 J1 hk hS hA hR hx
      have hkl : k < t0.length := by omega
      have hSd : xSd I I1 J J1 P (xu P 228 1 none) := xSd.en s0_228 hS
      have hm1 : xMs I1 2 m e := fun j hj => ⟨(hS.1 2 j (by omega)).trans (hm j hj).1, (hm j hj).2⟩
      have hTx1 : xTx I1 (q0 :: fla t0) := ⟨(hS.1 1 9 (by omega)).trans hTx.1, fun i q hi => ⟨(hS.1 3 i (by omega)).trans (hTx.2 i q hi).1, (hS.1 4 i (by omega)).trans (hTx.2 i q hi).2⟩⟩
      have hT1 : xTr I1 J1 (xu P 228 1 none) o D := hT.keep (fun b j h1 h2 => hS.1 b j (by omega)) (fun b j h1 h2 => hS.2 b j (by omega)) (fun b j h1 h2 => xu_other (by omega))
      obtain ⟨x, hxk⟩ : ∃ x, t0[k]? = some x := ⟨_, List.getElem?_eq_getElem hkl⟩
      have hxe : t0[k] = x := (List.getElem?_eq_some_iff.mp hxk).2
      have hxm : x ∈ t0 := List.mem_of_getElem? hxk
      have hqx := hq x hxm
      have hsplit : t0 = t0.take k ++ x :: t0.drop (k + 1) := by rw [← hxe, ← List.drop_eq_getElem_cons hkl, List.take_append_drop]
      have hfl : fla t0 = fla (t0.take k) ++ (x.1 :: x.2 ++ fla (t0.drop (k + 1))) := by
        conv => lhs; rw [hsplit, fla_app]
        rfl
      have htk : t0.take (k + 1) = t0.take k ++ [x] := by rw [List.take_succ, hxk]; rfl
      have hflk : (fla (t0.take (k + 1))).length = (fla (t0.take k)).length + (1 + x.2.length) := by rw [htk, fla_app, List.length_append]; simp [fla]; omega
      have hlt : (fla t0).length = (fla (t0.take k)).length + (1 + x.2.length + (fla (t0.drop (k + 1))).length) := by rw [hfl]; simp; omega
      have hl' : (fla t0).length ≤ 74 := by simp at hl; omega
      have hg0 : (q0 :: fla t0)[1 + (fla (t0.take k)).length]? = some x.1 := by rw [Nat.add_comm, List.getElem?_cons_succ, hfl, List.getElem?_append_right (by omega)]; simp
      have hv5 : I1 (1 + 4) k = nI x.2.length := (hS.1 5 k (by omega)).trans (hC.2 k _ (by rw [List.getElem?_map, hxk]; rfl))
      rw [List.drop_eq_getElem_cons hkl, hxe, adv] at hx
      refine b_ED_add_13 hL0 ⟨1, rfl, s0_1, ?_⟩
      refine pk_le (t0.map (fun x => x.2.length)).length k (fun z => by simp at z; omega) (fun _ => ⟨_, c_RQ_typeOf hL0 hm1 he hTx1 hg0 hl hqx.1, ?_⟩) ((hS.1 1 11 (by omega)).trans hC.1) rfl (by simp; omega) (by omega)
      rintro w I3 _ _ ⟨rfl, rfl, rfl, rfl⟩
      cases hty : tyx m x.1 with
      | none =>
        rw [hty] at hx
        refine ⟨fun z => absurd rfl z, fun _ => ⟨hL0, hSd, ?_⟩⟩
        rw [addm, hx]
        exact ⟨rfl, hT1⟩
      | some t =>
        rw [hty] at hx
        simp only at hx
        have ht := tyx_5 hty
        have hro := en_row hL0 s0_228 ht
        have hmo3 : mo t ≤ 3 := by unfold mo; split <;> omega
        have hAl := (hA t ht).2.1
        refine ⟨fun _ => ⟨pk_in t 5 ht, 230 + 3 * t, ?_⟩, fun z => absurd z (nI_m1 (by omega))⟩
        rw [show tyo (some t) = nI t from rfl, pk_cl t, pk_cl k, hv5, nI_1]
        refine ⟨hro.1, hro.2, ?_⟩
        refine pk_le (A t).length 0 (fun z => ⟨pk_in k 18 (by omega), ?_⟩) (fun z => ⟨hL0, hSd, ?_⟩) ((hR t ht).1.trans (by rw [pkr_len]))
        · have hA0 : A t = [] := List.eq_nil_of_length_eq_zero (by omega)
          have hR0 : xRw I1 J1 (230 + 3 * t) [] := by have h := hR t ht; rw [hA0] at h; exact h
          rw [if_pos (by omega)] at hx
          rw [show P = P from rfl, hro.1]
          refine ⟨_, c_ED_readValues (L := x.2) hL0 hm1 he hTx1 hl ht hro.2 hR0 (by rw [cand_cap t ht]; omega) (fun i q hi => ?_) (by omega), ?_⟩
          · refine ⟨?_, hqx.2.2 q (List.mem_of_getElem? hi)⟩
            have hil := (List.getElem?_eq_some_iff.mp hi).1
            rw [show 1 + (fla (t0.take k)).length + 1 + i = ((fla (t0.take k)).length + (1 + i)) + 1 by omega, List.getElem?_cons_succ, hfl, List.getElem?_append_right (by omega), Nat.add_sub_cancel_left, Nat.add_comm 1 i]
            show (x.1 :: (x.2 ++ fla (t0.drop (k + 1))))[i + 1]? = _
            rw [List.getElem?_cons_succ, List.getElem?_append_left hil]
            exact hi
          rintro w I5 J5 _ ⟨rfl, hs5, hm5⟩
          have hS5 : xSe 228 I I5 J J5 := hS.row ht hs5
          have hSd5 : xSd I I5 J J5 P (xu P 228 1 none) := xSd.en s0_228 hS5
          have hT5 : xTr I5 J5 (xu P 228 1 none) o D := hT.keep (fun b j h1 h2 => hS5.1 b j (by omega)) (fun b j h1 h2 => hS5.2 b j (by omega)) (fun b j h1 h2 => xu_other (by omega))
          cases hrd : rdv m t x.2 [] with
          | inl c =>
            rw [hrd] at hx hm5
            have hm5 : w = nI c := hm5
            subst hm5
            refine ⟨fun z => ?_, fun _ => ⟨hL0, hSd5, ?_⟩⟩
            · rcases rdv_code hrd with rfl | rfl <;> exact absurd z (by decide)
            · rw [addm, hx]
              exact ⟨rfl, hT5⟩
          | inr R =>
            rw [hrd] at hx hm5
            simp only at hx
            obtain ⟨rfl, hr5⟩ := hm5
            have hok := rdv_ok (fun q hq' j hj => (hm j (by have := (hqx.2.2 q hq').2; omega)).2) (fun v hv => by cases hv) (by simp) hrd
            have hRl : R.length = x.2.length := by rw [hok.2.2]; simp
            refine ⟨fun _ => ⟨pk_in t 5 ht, ?_⟩, fun z => absurd rfl z⟩
            rw [xs1_at t ht]
            refine pk_le R.length (mo t) (fun z2 => ⟨pk_in k 18 (by omega), ?_⟩) (fun z2 => ⟨hL0, hSd5, ?_⟩) (hr5.1.trans (by rw [pkr_len])) rfl (by omega) (by omega)
            · rw [if_pos z2] at hx
              have hv55 : I5 (1 + 4) k = nI x.2.length := (hs5.1 5 k (by omega)).trans hv5
              rw [hv55, show (1 : Int32) = nI 1 from rfl, nI_add, nI_add, nI_add, Nat.add_assoc 1, ← hflk]
              refine ih (k + 1) (setA A t R) I5 J5 (by omega) hS5 (fun i hi => ?_) (fun i hi => ?_) hx
              · by_cases hit : i = t
                · subst hit; rw [setA_at]; exact ⟨hok.1, z2, hok.2.1⟩
                · rw [setA_ne hit]; exact hA i hi
              · by_cases hit : i = t
                · subst hit; rw [setA_at]; exact hr5
                · rw [setA_ne hit]; exact (hR i hi).far (by omega) hro.2 (en_row hL0 s0_228 hi).2 hs5
            · rw [if_neg (by omega)] at hx
              rw [addm, hx]
              exact ⟨rfl, hT5⟩
        · rw [if_neg (by omega)] at hx
          rw [addm, hx]
          exact ⟨rfl, hT1⟩
  refine e_ED_add (b_ED_add_0 hL ⟨_, c_EN_clear2 hL s0_228, ?_⟩)
  rintro I1 J1 _ ⟨rfl, hS, hR⟩
  exact loop t0.length 0 (fun _ => []) I1 J1 (by omega) hS (fun t ht => ⟨fun v hv => (by cases hv), by simp, by simp⟩) hR (by simp)
end XED2

/-! the session: a request is done -/
def Qpf (R : Res) (I : xIt) : Int32 → xIt → xJt → xPt → Prop := fun r I' J' P' => xL P' ∧ (∀ b k, (b ≤ 9 ∧ ¬ (b = 0 ∧ k = 4)) ∨ 250 ≤ b → I' b k = I b k) ∧ r = nI R.1 ∧ I' 0 4 = nI R.2.2.2.1 ∧ xOt I' R.2.2.2.2 ∧ ∃ o', xTr I' J' P' o' R.2.1 ∧ P' 0 2 = R.2.2.1.map o'
theorem pay_first {m : Nat → Nat} {op f e : Nat} {I : xIt} (he : e ≤ 153) (hb : ∀ j, j < e → m j < 256) (hfe : f ≤ e) (h66 : op ≠ 66) (hfok : fok m op f e = true) (hp : payC m op f e I) : ∃ (A : Nat × Nat) (T : List (Nat × Nat)), xTx I T ∧ T[0]? = some A ∧ T.length ≤ 75 ∧ (A.1 ≤ A.2 ∧ A.2 ≤ e) ∧
    ((op = 74 ∧ A = (f, e)) ∨
     (op = 96 ∧ ∃ q, bf m f e = some q ∧ A = q.2.1 ∧ T = [q.2.1, q.2.2] ∧ I 1 4 = q.1) ∨
     (op = 110 ∧ ∃ q, cf m f e = some q ∧ A = q.1 ∧ T = [q.1, q.2.1, q.2.2]) ∨
     (op = 104 ∧ ∃ q, af m f e = some q ∧ A = q.1 ∧ T = q.1 :: fla q.2.2 ∧ xAc I (q.2.2.map (fun x => x.2.length))) ∨
     (op = 102 ∧ ∃ q, mf m f e = some q ∧ A = q.1 ∧ T = q.1 :: q.2.2.1 :: q.2.2.2.2 ∧ xAc I [q.2.2.2.2.length] ∧ I 1 5 = nI q.2.1) ∨
     (op = 108 ∧ ∃ q, nf m f e = some q ∧ A = q.1 ∧ T = [q.1, q.2.1] ∧ I 1 6 = (if q.2.2.1 = 0 then 0 else 1)) ∨
     (op = 99 ∧ ∃ q, sf m f e = some q ∧ A = q.1 ∧ xFl m I [q.1] q.2.2.2.2 ∧ I 1 5 = nI q.2.1 ∧ I 1 4 = q.2.2.1)) := by
  obtain ⟨p1, p2, p3, p4, p5, p6, p7⟩ := hp
  unfold fok at hfok
  rw [if_neg h66] at hfok
  by_cases h74 : op = 74
  · exact ⟨(f, e), _, p1 h74, rfl, by simp, ⟨hfe, Nat.le_refl _⟩, Or.inl ⟨h74, rfl⟩⟩
  rw [if_neg h74] at hfok
  by_cases h96 : op = 96
  · rw [if_pos h96] at hfok
    cases hq : bf m f e with
    | none => rw [hq] at hfok; cases hfok
    | some q =>
      have := p2 h96 q hq
      have ho := bf_ok hq
      exact ⟨q.2.1, _, this.2, rfl, by simp, ho.1, Or.inr (Or.inl ⟨h96, q, rfl, rfl, rfl, this.1⟩)⟩
  rw [if_neg h96] at hfok
  by_cases h110 : op = 110
  · rw [if_pos h110] at hfok
    cases hq : cf m f e with
    | none => rw [hq] at hfok; cases hfok
    | some q =>
      have ho := cf_ok hq
      exact ⟨q.1, _, p3 h110 q hq, rfl, by simp, ho.1, Or.inr (Or.inr (Or.inl ⟨h110, q, rfl, rfl, rfl⟩))⟩
  rw [if_neg h110] at hfok
  by_cases h104 : op = 104
  · rw [if_pos h104] at hfok
    cases hq : af m f e with
    | none => rw [hq] at hfok; cases hfok
    | some q =>
      have := p4 h104 q hq
      have ho := af_ok he hq
      exact ⟨q.1, _, this.1, rfl, ho.2.2.1, ho.1, Or.inr (Or.inr (Or.inr (Or.inl ⟨h104, q, rfl, rfl, rfl, this.2⟩)))⟩
  rw [if_neg h104] at hfok
  by_cases h102 : op = 102
  · rw [if_pos h102] at hfok
    cases hq : mf m f e with
    | none => rw [hq] at hfok; cases hfok
    | some q =>
      have := p5 h102 q hq
      have ho := mf_ok hq
      exact ⟨q.1, _, this.1, rfl, by simp; have := ho.2.2.2.1; omega, ho.1, Or.inr (Or.inr (Or.inr (Or.inr (Or.inl ⟨h102, q, rfl, rfl, rfl, this.2.1, this.2.2⟩))))⟩
  rw [if_neg h102] at hfok
  by_cases h108 : op = 108
  · rw [if_pos h108] at hfok
    cases hq : nf m f e with
    | none => rw [hq] at hfok; cases hfok
    | some q =>
      have := p6 h108 q hq
      have ho := nf_ok hq
      exact ⟨q.1, _, this.1, rfl, by simp, ho.1, Or.inr (Or.inr (Or.inr (Or.inr (Or.inr (Or.inl ⟨h108, q, rfl, rfl, rfl, this.2⟩)))))⟩
  rw [if_neg h108] at hfok
  by_cases h99 : op = 99
  · rw [if_pos h99] at hfok
    cases hq : sf m f e with
    | none => rw [hq] at hfok; cases hfok
    | some q =>
      have := p7 h99 q hq
      have ho := sf_ok hb hq
      exact ⟨q.1, _, this.1.2.1, rfl, ho.2.2.2.2.2.2.1, ho.1, Or.inr (Or.inr (Or.inr (Or.inr (Or.inr (Or.inr ⟨h99, q, rfl, rfl, this.1, this.2.1, this.2.2⟩)))))⟩
  · rw [if_neg h99] at hfok; cases hfok
section XDS3
variable {l : Launch} {V : xV} {I : xIt} {J : xJt} {P : xPt} {o : Nat → Nat} {D : List Ent} {m : Nat → Nat} {e : Nat}
theorem xFl.keep {I' : xIt} {T0 : List (Nat × Nat)} {N : List Fi} (h : xFl m I T0 N) (hI : ∀ b k, 1 ≤ b → b ≤ 9 → I' b k = I b k) : xFl m I' T0 N := ⟨(hI 6 6 (by omega) (by omega)).trans h.1, ⟨(hI 1 9 (by omega) (by omega)).trans h.2.1.1, fun i q hi => ⟨(hI 3 i (by omega) (by omega)).trans (h.2.1.2 i q hi).1, (hI 4 i (by omega) (by omega)).trans (h.2.1.2 i q hi).2⟩⟩, fun i x hx => ⟨(hI 7 i (by omega) (by omega)).trans (h.2.2 i x hx).1, (hI 8 i (by omega) (by omega)).trans (h.2.2 i x hx).2.1, (hI 9 i (by omega) (by omega)).trans (h.2.2 i x hx).2.2⟩⟩
theorem Qed.pf {R : Nat ⊕ List Ent} {b : Option Nat} {fd : Nat} {I0 I1 : xIt} {J1 : xJt} {P1 : xPt} (hI : ∀ b k, b ≤ 9 ∨ 248 ≤ b → I1 b k = I0 b k) (hb : P1 0 2 = b.map o) (hfd : I0 0 4 = nI fd) (hO : xOt I0 []) {r : Int32} {I2 : xIt} {J2 : xJt} {P2 : xPt} (h : Qed o D R I1 J1 P1 r I2 J2 P2) : Qpf (edr D b fd R) I0 r I2 J2 P2 := by
  obtain ⟨h1, h2, h3⟩ := h
  have hI2 : ∀ b k, b ≤ 9 ∨ 248 ≤ b → I2 b k = I0 b k := fun b k hb => (h2.1 b k (by omega)).trans (hI b k hb)
  have hO2 : xOt I2 [] := ⟨(hI2 248 1 (by omega)).trans hO.1, hO.2.1, fun i b hi => by simp at hi⟩
  have hb2 : P2 0 2 = b.map o := (h2.2.2 0 2 (by omega)).trans hb
  cases R with
  | inl c => exact ⟨h1, fun b k hb => hI2 b k (by omega), h3.1, (hI2 0 4 (by omega)).trans hfd, hO2, o, h3.2, hb2⟩
  | inr D' => exact ⟨h1, fun b k hb => hI2 b k (by omega), h3.1, (hI2 0 4 (by omega)).trans hfd, hO2, o, h3.2, hb2⟩
set_option maxRecDepth 20000 in
theorem c_DS_perform {op f d fd : Nat} {b : Option Nat} (hL : xL P) (hm : xMs I 2 m e) (he : e ≤ 153) (hfe : f ≤ e) (hi : inv D) (hT : xTr I J P o D) (hbo : bok D b) (hb : P 0 2 = b.map o) (hfok : fok m op f e = true) (h66 : op ≠ 66) (hop : op < 256) (hp : payC m op f e I) (h13 : I 1 3 = nI op) (h12' : I 1 2 = nI d) (hd : d < 32768) (hfd : I 0 4 = nI fd) (hO : xOt I []) : xMet l V y_DS_perform 7 0 0 [xq (some 0)] xS0 I J P (xPi (Qpf (prf m e d op f D b fd) I)) := by
  have hW := hi.1
  have hb8 : ∀ j, j < e → m j < 256 := fun j hj => (hm j hj).2
  obtain ⟨A, T, hTx, hT0, hTl, hA, hcase⟩ := pay_first he hb8 hfe h66 hfok hp
  refine e_DS_perform (b_DS_perform_0 hL ?_)
  rw [lp_0_5 hL]
  refine ⟨_, c_NM_read (k := 0) hL s0_13 hm he hTx hT0 hTl hA, ?_⟩
  rintro z1 I1 J1 _ ⟨rfl, hI1, hJ1, hn1, hn0⟩
  rw [lp_0_6 hL]
  have hI1' : ∀ b k, b ≤ 9 ∨ 248 ≤ b → I1 b k = I b k := fun b k hb => hI1 b k (by omega) (by omega)
  have hT1 : xTr I1 J1 P o D := hT.keep (fun b k h1 h2 => hI1 b k (by omega) (by omega)) (fun b k h1 h2 => hJ1 b k (by omega) (by omega)) (fun _ _ _ _ => rfl)
  have hm1 : xMs I1 2 m e := fun j hj => ⟨(hI1' 2 j (by omega)).trans (hm j hj).1, (hm j hj).2⟩
  have hTx1 : xTx I1 T := ⟨(hI1' 1 9 (by omega)).trans hTx.1, fun i q hi => ⟨(hI1' 3 i (by omega)).trans (hTx.2 i q hi).1, (hI1' 4 i (by omega)).trans (hTx.2 i q hi).2⟩⟩
  have hO1 : xOt I1 [] := ⟨(hI1' 248 1 (by omega)).trans hO.1, hO.2.1, fun i b hi => by simp at hi⟩
  have hfd1 : I1 0 4 = nI fd := (hI1' 0 4 (by omega)).trans hfd
  have h131 : I1 1 3 = nI op := (hI1' 1 3 (by omega)).trans h13
  obtain ⟨N', hN', hwp, hwho⟩ : ∃ N', xNm I1 J1 13 N' ∧ wfp N' ∧ ((fdn D N').bind id) = whoO m A D := by
    cases hnr : nr m A.1 A.2 with
    | none => exact ⟨[], ⟨hn0 hnr, fun i x hi => by simp at hi⟩, ⟨by simp, fun p hp => by cases hp⟩, by unfold whoO; rw [hnr]; rfl⟩
    | some N =>
      rw [hnr] at hn1
      exact ⟨N, hn1.2, nr_ok (fun j hj => hb8 j (by omega)) hnr, by unfold whoO; rw [hnr]⟩
  refine ⟨_, c_TR_find (f := 0) hL hT1 hW s0_13 hN' hwp (by omega), ?_⟩
  rintro z2 I2 _ _ ⟨rfl, rfl, rfl, rfl⟩
  rw [List.drop_zero, hwho, h131]
  have same : ∀ c, prf m e d op f D b fd = (c, D, b, fd, []) → Qpf (prf m e d op f D b fd) I (nI c) I1 J1 P := by
    intro c hc
    rw [hc]
    exact ⟨hL, fun b k hb => hI1' b k (by omega), rfl, hfd1, hO1, o, hT1, hb⟩
  refine (pk_eq op 96 (fun z => ?_) (fun n96 => (pk_eq op 99 (fun z => ?_) (fun n99 => ?_)).symm)).symm
  · rcases hcase with h | ⟨-, q, hq, rfl, rfl, h4⟩ | h | h | h | h | h <;> try (exact absurd h.1 (by omega))
    have ho := bf_ok hq
    refine ⟨_, c_DS_bind (v := q.1) (b := b) hL hm1 he hTx1 ((hI1' 1 4 (by omega)).trans h4) ho.1 ho.2.1 hT1 hW hb, ?_⟩
    rintro r I2 _ P2 ⟨rfl, rfl, hL2, hP2, rfl, hb2⟩
    have hpr : prf m e d op f D b fd = ((bndm m D b q).1, D, (bndm m D b q).2, fd, []) := by unfold prf; rw [if_pos z, hq]
    rw [hpr]
    exact ⟨hL2, fun b k hb => hI1' b k (by omega), rfl, hfd1, hO1, o, hT1.keep (fun _ _ _ _ => rfl) (fun _ _ _ _ => rfl) (fun b k h1 h2 => hP2 b k (by omega)), hb2⟩
  · rcases hcase with h | h | h | h | h | h | ⟨-, q, hq, rfl, hF, h5, h4⟩ <;> try (exact absurd h.1 (by omega))
    refine ⟨_, c_DS_search (f := f) (d := d) hL hm1 he hi hT1 hq (hF.keep (fun b k h1 h2 => hI1' b k (by omega))) ((hI1' 1 5 (by omega)).trans h5) ((hI1' 1 4 (by omega)).trans h4) ((hI1' 1 2 (by omega)).trans h12') hd hO1 hn1, ?_⟩
    rintro r I2 J2 _ ⟨rfl, hI2, hJ2, rfl, h04, hO2⟩
    have hpr : prf m e d op f D b fd = ((srcM m e d q.1 q.2.1 q.2.2.1 q.2.2.2.1 D).1, D, b, (srcM m e d q.1 q.2.1 q.2.2.1 q.2.2.2.1 D).2.1, (srcM m e d q.1 q.2.1 q.2.2.1 q.2.2.2.1 D).2.2) := by
      unfold prf
      rw [if_neg (by omega), if_neg (by omega), if_neg (by omega), if_neg (by omega), if_neg (by omega), if_neg (by omega), hq]
    rw [hpr]
    exact ⟨hL, fun b k hb => (hI2 b k (by omega) (by omega) (by omega) (by omega) (by omega)).trans (hI1' b k (by omega)), rfl, h04, hO2, o, hT1.keep (fun b k h1 h2 => hI2 b k (by omega) (by omega) (by omega) (by omega) (by omega)) (fun b k h1 h2 => hJ2 b k (by omega)) (fun _ _ _ _ => rfl), hb⟩
  -- the rest asks for a name
  cases hnr : nr m A.1 A.2 with
  | none =>
    rw [hnr] at hn1
    have hn1 : z1 = 0 := hn1
    subst hn1
    have hwm : whoM m A D = .inl 34 := by unfold whoM; rw [hnr]
    refine ⟨fun z => absurd rfl z, fun _ => same 34 ?_⟩
    rcases hcase with ⟨h, rfl⟩ | ⟨h, -⟩ | ⟨h, q, hq, rfl, -⟩ | ⟨h, q, hq, rfl, -⟩ | ⟨h, q, hq, rfl, -⟩ | ⟨h, q, hq, rfl, -⟩ | ⟨h, -⟩
    · unfold prf
      rw [if_neg n96, if_neg (by omega), if_pos h]
      simp only [delm, hwm]
    · exact absurd h n96
    · unfold prf
      rw [if_neg n96, if_neg (by omega), if_neg (by omega), if_neg (by omega), if_neg (by omega), if_pos h, hq]
      simp only [cmpM, hwm]
    · unfold prf
      rw [if_neg n96, if_pos h, hq]
      simp only [addM, hnr, edr]
    · unfold prf
      rw [if_neg n96, if_neg (by omega), if_neg (by omega), if_pos h, hq]
      simp only [modM, hwm, edr]
    · unfold prf
      rw [if_neg n96, if_neg (by omega), if_neg (by omega), if_neg (by omega), if_pos h, hq]
      simp only [renM, hwm]
      split <;> rfl
    · exact absurd h n99
  | some N =>
    rw [hnr] at hn1
    obtain ⟨rfl, hNm⟩ := hn1
    have hNp := nr_ok (fun j hj => hb8 j (by omega)) hnr
    refine ⟨fun _ => ?_, fun z => absurd z (by decide)⟩
    refine (pk_eq op 104 (fun z => ?_) (fun n104 => (pk_eq op 108 (fun z => ?_) (fun n108 => ?_)).symm)).symm
    · rcases hcase with h | h | h | ⟨-, q, hq, rfl, rfl, hac⟩ | h | h | h <;> try (exact absurd h.1 (by omega))
      have ho := af_ok he hq
      rw [lp_0_5 hL, lp_0_6 hL, lp_0_8 hL]
      refine ⟨_, c_ED_add (N := N) hL hm1 he hTx1 ⟨(hI1' 1 11 (by omega)).trans hac.1, fun i c hc => (hI1' 5 i (by omega)).trans (hac.2 i c hc)⟩ hTl ho.2.1 ho.2.2.2 hT1 hW hNm hNp, ?_⟩
      intro r I3 J3 P3 h
      have hpr : prf m e d op f D b fd = edr D b fd (addM m q.1 q.2.2 D) := by unfold prf; rw [if_neg n96, if_pos z, hq]
      have haM : addM m q.1 q.2.2 D = addm m D N q.2.2 := by unfold addM; rw [hnr]
      rw [hpr, haM]
      exact h.pf hI1' hb hfd hO
    · rcases hcase with h | h | h | h | h | ⟨-, q, hq, rfl, rfl, h6⟩ | h <;> try (exact absurd h.1 (by omega))
      have ho := nf_ok hq
      rw [lp_0_5 hL]
      refine ⟨_, c_NM_read (k := 1) hL s0_17 hm1 he hTx1 rfl (by simp) ho.2, ?_⟩
      rintro z6 I6 J6 _ ⟨rfl, hI6, hJ6, hn6, hn06⟩
      have hI6' : ∀ b k, b ≤ 9 ∨ 248 ≤ b → I6 b k = I b k := fun b k hb => (hI6 b k (by omega) (by omega)).trans (hI1' b k hb)
      have hT6 : xTr I6 J6 P o D := hT1.keep (fun b k h1 h2 => hI6 b k (by omega) (by omega)) (fun b k h1 h2 => hJ6 b k (by omega) (by omega)) (fun _ _ _ _ => rfl)
      have hO6 : xOt I6 [] := ⟨(hI6' 248 1 (by omega)).trans hO.1, hO.2.1, fun i b hi => by simp at hi⟩
      have hpr : prf m e d op f D b fd = edr D b fd (renM m q.1 q.2.1 (!decide (q.2.2.1 = 0)) D) := by
        unfold prf
        rw [if_neg n96, if_neg (by omega), if_neg (by omega), if_neg (by omega), if_pos z, hq]
      have no : (∀ p, nr m q.2.1.1 q.2.1.2 ≠ some [p]) → G_DS_perform l V (Qpf (prf m e d op f D b fd) I) 145 [(0, xq (some 0)), (1, xi 1), (2, xq ((whoO m q.1 D).map o))] [xi 0] I6 J6 P := by
        intro hno
        refine b_DS_perform_145 hL ⟨fun _ => ?_, fun z => absurd rfl z⟩
        have hre : renM m q.1 q.2.1 (!decide (q.2.2.1 = 0)) D = .inl 34 := by
          unfold renM
          split
          · rename_i p hp; exact absurd hp (hno p)
          · rfl
        rw [hpr, hre]
        exact ⟨hL, fun b k hb => hI6' b k (by omega), rfl, (hI6' 0 4 (by omega)).trans hfd, hO6, o, hT6, hb⟩
      cases hnb : nr m q.2.1.1 q.2.1.2 with
      | none =>
        rw [hnb] at hn6 no
        have hn6 : z6 = 0 := hn6
        subst hn6
        exact ⟨fun _ => no (fun p h => by cases h), fun z => absurd rfl z⟩
      | some M =>
        rw [hnb] at hn6 no
        obtain ⟨rfl, hM⟩ := hn6
        have hMp := nr_ok (fun j hj => hb8 j (by omega)) hnb
        have hM3 := hMp.1
        refine ⟨fun z => absurd z (by decide), fun _ => (pk_eq M.length 1 (fun z1 => ?_) (fun z1 => no (fun p h => z1 (by cases h; rfl))) hM.1 rfl (by omega) (by omega)).symm⟩
        obtain ⟨p, rfl⟩ := List.length_eq_one_iff.mp z1
        refine b_DS_perform_145 hL ⟨fun z => absurd z (by decide), fun _ => ?_⟩
        rw [lp_0_7 hL, lp_0_8 hL, hI6' 1 6 (by omega), h6]
        have hg : (if q.2.2.1 = 0 then (0 : Int32) else 1) = if (!decide (q.2.2.1 = 0)) = true then 1 else 0 := by by_cases h : q.2.2.1 = 0 <;> simp [h]
        rw [hg]
        cases hwk : whoO m q.1 D with
        | none =>
          have hwm := whoO_32 hwk hnr
          have hre : renM m q.1 q.2.1 (!decide (q.2.2.1 = 0)) D = .inl 32 := by unfold renM; rw [hnb]; simp only [hwm]
          refine ⟨_, e_ED_rename (Q := fun r I' J' P' => r = nI 32 ∧ I6 = I' ∧ J6 = J' ∧ P = P') (b_ED_rename_0 hL ⟨fun z => absurd rfl z, fun _ => ⟨rfl, rfl, rfl, rfl⟩⟩), ?_⟩
          rintro r I7 J7 P7 ⟨rfl, rfl, rfl, rfl⟩
          rw [hpr, hre]
          exact ⟨hL, fun b k hb => hI6' b k (by omega), rfl, (hI6' 0 4 (by omega)).trans hfd, hO6, o, hT6, hb⟩
        | some k =>
          have hwm := whoO_eq.mp hwk
          have hk := whoM_lt hwm
          obtain ⟨x, hx⟩ : ∃ x, D[k]? = some x := ⟨_, List.getElem?_eq_getElem hk⟩
          have hre : renM m q.1 q.2.1 (!decide (q.2.2.1 = 0)) D = put1 D k (rnm D k x p (!decide (q.2.2.1 = 0))) := by unfold renM; rw [hnb]; simp only [hwm, hx]
          refine ⟨_, c_ED_rename hL hT6 hW hx hM hMp, ?_⟩
          intro r I7 J7 P7 h
          rw [hpr, hre]
          exact h.pf hI6' hb hfd hO
    · cases hwk : whoO m A D with
      | none =>
        have hwm := whoO_32 hwk hnr
        refine ⟨fun z => absurd rfl z, fun _ => same 32 ?_⟩
        rcases hcase with ⟨h, rfl⟩ | ⟨h, -⟩ | ⟨h, q, hq, rfl, -⟩ | ⟨h, -⟩ | ⟨h, q, hq, rfl, -⟩ | ⟨h, -⟩ | ⟨h, -⟩
        · unfold prf
          rw [if_neg n96, if_neg (by omega), if_pos h]
          simp only [delm, hwm]
        · exact absurd h n96
        · unfold prf
          rw [if_neg n96, if_neg (by omega), if_neg (by omega), if_neg (by omega), if_neg (by omega), if_pos h, hq]
          simp only [cmpM, hwm]
        · exact absurd h n104
        · unfold prf
          rw [if_neg n96, if_neg (by omega), if_neg (by omega), if_pos h, hq]
          simp only [modM, hwm, edr]
        · exact absurd h n108
        · exact absurd h n99
      | some k =>
        have hwm := whoO_eq.mp hwk
        have hk := whoM_lt hwm
        obtain ⟨x, hx⟩ : ∃ x, D[k]? = some x := ⟨_, List.getElem?_eq_getElem hk⟩
        refine ⟨fun _ => ?_, fun z => by cases z⟩
        refine (pk_eq op 102 (fun z => ?_) (fun n102 => (pk_eq op 74 (fun z => ?_) (fun n74 => ?_)).symm)).symm
        · rcases hcase with h | h | h | h | ⟨-, q, hq, rfl, rfl, hac, h5⟩ | h | h <;> try (exact absurd h.1 (by omega))
          have ho := mf_ok hq
          rw [lp_0_5 hL]
          refine ⟨_, c_ED_modify hL hm1 he hTx1 ⟨(hI1' 1 11 (by omega)).trans hac.1, fun i c hc => (hI1' 5 i (by omega)).trans (hac.2 i c hc)⟩ ((hI1' 1 5 (by omega)).trans h5) ho.2.1 ho.2.2.2.1 ho.2.2.1 ho.2.2.2.2.1 hT1 hW hx, ?_⟩
          intro r I3 J3 P3 h
          have hpr : prf m e d op f D b fd = edr D b fd (modM m q.1 q.2.1 q.2.2.1 q.2.2.2.2 D) := by
            unfold prf
            rw [if_neg n96, if_neg n104, if_neg (by omega), if_pos z, hq]
          have hmM : modM m q.1 q.2.1 q.2.2.1 q.2.2.2.2 D = put1 D k (mdm m q.2.1 q.2.2.1 q.2.2.2.2 x) := by unfold modM; rw [hwm]; simp only [hx]
          rw [hpr, hmM]
          exact h.pf hI1' hb hfd hO
        · rcases hcase with ⟨-, rfl⟩ | h | h | h | h | h | h <;> try (exact absurd h.1 (by omega))
          refine ⟨_, c_DS_delete hL hT1 hW hk hbo hb, ?_⟩
          rintro r I3 J3 P3 ⟨hL3, hI3, rfl, o', hT3, hb3⟩
          have hpr : prf m e d op f D b fd = ((delm m (f, e) D b).1, (delm m (f, e) D b).2.1, (delm m (f, e) D b).2.2, fd, []) := by
            unfold prf
            rw [if_neg n96, if_neg n104, if_pos z]
          have hde : delm m (f, e) D b = if D.any (fun x => decide (x.2.2.2 = some k)) = true then (66, D, b) else (0, dlt D k, if b = some k then none else b.map (dlu k)) := by unfold delm; rw [hwm]
          rw [hpr, hde]
          exact ⟨hL3, fun b k hb => (hI3 b k (by omega)).trans (hI1' b k (by omega)), rfl, (hI3 0 4 (by omega)).trans hfd1, ⟨(hI3 248 1 (by omega)).trans hO1.1, hO1.2.1, fun i b hi => by simp at hi⟩, o', hT3, hb3⟩
        · rcases hcase with h | h | ⟨h110, q, hq, rfl, rfl⟩ | h | h | h | h <;> try (exact absurd h.1 (by omega))
          have ho := cf_ok hq
          refine ⟨_, c_DS_compare hL hm1 he hTx1 ho.2.1 ho.2.2.1 hT1 hW hwm, ?_⟩
          rintro r I3 _ _ ⟨rfl, rfl, rfl, rfl⟩
          refine same _ ?_
          unfold prf
          rw [if_neg n96, if_neg n104, if_neg n74, if_neg n102, if_neg n108, if_pos h110, hq]
end XDS3

/-! the reference's form of ADD, and of a filter that holds no filters -/
def al (m : Nat → Nat) : Nat → Nat → Nat → Option (List ((Nat × Nat) × List (Nat × Nat)))
  | 0, p, e => if e ≤ p then some [] else none
  | k + 1, p, e => if e ≤ p then some [] else (tk m 48 255 p e).bind fun s => (tk m 4 30 s.1 s.2).bind fun B => (tk m 49 255 B.2 s.2).bind fun W => if W.2 = s.2 then if W.1 = W.2 then none else (vl m 8 W.1 s.2).bind fun L => (al m k s.2 e).map (fun t => (B, L) :: t) else none
def af (m : Nat → Nat) (p e : Nat) : Option ((Nat × Nat) × (Nat × Nat) × List ((Nat × Nat) × List (Nat × Nat))) := (tk m 4 30 p e).bind fun A => (tk m 48 255 A.2 e).bind fun C => if C.2 = e then (al m 160 C.1 e).bind fun t => some (A, C, t) else none
set_option maxRecDepth 20000 in
theorem c_RF_addForm {l : Launch} {V : xV} {I : xIt} {J : xJt} {P : xPt} {m : Nat → Nat} {p e : Nat} (hL : xL P) (hm : xMs I 251 m e) (he : e ≤ 160) (hp : p < 900) (hat : I 250 6 = nI p) : xMet l V y_RF_addForm 4 0 0 [xq (some 250), xi (nI e)] xS0 I J P (xPi (fun r I' J' P' => J = J' ∧ P = P' ∧ xsm (dF [3, 4, 5, 6, 12, 13, 14, 15, 16, 17, 18] [252, 253]) I I' ∧ xOp (af m p e) r (fun q => I' 250 12 = nI q.1.1 ∧ I' 250 13 = nI q.1.2 ∧ I' 250 16 = nI q.2.1.1 ∧ I' 250 17 = nI q.2.1.2))) := by
  refine e_RF_addForm (b_RF_addForm_0 hL ⟨QA m 12 13 p e I J P, c_RF_textA hL hm he (by omega) hat, ?_⟩)
  intro r1 I1 J1 P1 h1
  obtain ⟨rfl, rfl, s1, o1⟩ := QA_op h1
  have t1 := s1.F (ks' := [3, 4, 5, 6, 12, 13, 14, 15, 16, 17, 18]) (as' := [252, 253]) rfl rfl
  refine x_op o1 (fun q1 => ⟨rfl, rfl, t1, xOp.n (by simp [af, q1]) rfl⟩) (fun A q1 a1 => ?_)
  have b1 := tk_bd (f := A.1) (u := A.2) q1
  refine ⟨QK m 48 255 A.2 e _ J P, c_RF_take hL (hm.sm t1 (fun j => rfl)) he (by omega) (by decide) (by decide) a1.2.2, ?_⟩
  intro r2 I2 J2 P2 h2
  obtain ⟨rfl, rfl, s2, o2⟩ := QK_op h2
  have t2 := t1.trans (s2.K (ks := [3, 4, 5, 6, 12, 13, 14, 15, 16, 17, 18]) (as := [252, 253]) rfl)
  refine x_op o2 (fun q2 => ⟨rfl, rfl, t2, xOp.n (by simp [af, q1, q2]) rfl⟩) (fun C q2 a2 => ?_)
  have b2 := tk_bd (f := C.1) (u := C.2) q2
  rw [a2.1, a2.2.1, a2.2.2]
  refine pk_eq C.2 e (fun c => ?_) (fun c => ⟨rfl, rfl, t2, xOp.n (by simp [af, q1, q2, c]) rfl⟩)
  have t2' := (t2.put (a := 250) (k := 16) (v := nI C.1) rfl).put (a := 250) (k := 17) (v := nI C.2) rfl
  have haf : af m p e = (al m 160 C.1 e).bind fun t => some (A, C, t) := by simp [af, q1, q2, if_pos c]
  have g12 : xu (xu I2 250 16 (nI C.1)) 250 17 (nI C.2) 250 12 = nI A.1 := (s2 250 12 rfl).trans a1.1
  have g13 : xu (xu I2 250 16 (nI C.1)) 250 17 (nI C.2) 250 13 = nI A.2 := (s2 250 13 rfl).trans a1.2.1
  have loop : ∀ (k : Nat) (L0 : List ((Nat × Nat) × List (Nat × Nat))) (p1 : Nat) (I3 : xIt), e - p1 ≤ k → p1 < 900 → xsm (dF [3, 4, 5, 6, 14, 15, 18] [252, 253]) (xu (xu I2 250 16 (nI C.1)) 250 17 (nI C.2)) I3 → (al m 160 C.1 e = (al m k p1 e).map (fun t => L0 ++ t)) → G_RF_addForm l V (fun r I' J' P' => J = J' ∧ P = P' ∧ xsm (dF [3, 4, 5, 6, 12, 13, 14, 15, 16, 17, 18] [252, 253]) I I' ∧ xOp (af m p e) r (fun q => I' 250 12 = nI q.1.1 ∧ I' 250 13 = nI q.1.2 ∧ I' 250 16 = nI q.2.1.1 ∧ I' 250 17 = nI q.2.1.2)) 52 [(0, xq (some 250)), (1, xi (nI e)), (2, xi (nI p1))] [] I3 J P := by
    intro k
    induction k with
    | zero =>
      intro L0 p1 I3 hk hp1 hs hv
      refine b_RF_addForm_52 hL ?_
      have hep : e ≤ p1 := by omega
      have hal : al m 160 C.1 e = some L0 := by rw [hv]; simp only [al, if_pos hep, Option.map_some, List.append_nil]
      refine pk_le e p1 (fun z => ⟨rfl, rfl, t2'.trans (hs.F rfl rfl), xOp.s (q := (A, C, L0)) (by rw [haf, hal]; rfl) rfl ⟨(hs 250 12 rfl).trans g12, (hs 250 13 rfl).trans g13, hs 250 16 rfl, hs 250 17 rfl⟩⟩) (fun z => by omega)
    | succ k ih =>
      intro L0 p1 I3 hk hp1 hs hv
      refine b_RF_addForm_52 hL ?_
      refine pk_le e p1 (fun z => ?_) (fun z => ?_)
      · have hal : al m 160 C.1 e = some L0 := by rw [hv]; simp only [al, if_pos z, Option.map_some, List.append_nil]
        exact ⟨rfl, rfl, t2'.trans (hs.F rfl rfl), xOp.s (q := (A, C, L0)) (by rw [haf, hal]; rfl) rfl ⟨(hs 250 12 rfl).trans g12, (hs 250 13 rfl).trans g13, hs 250 16 rfl, hs 250 17 rfl⟩⟩
      · have hne : ¬ e ≤ p1 := by omega
        have hs0 := hs.put (a := 250) (k := 6) (v := nI p1) rfl
        have bad : ∀ I', xsm (dF [3, 4, 5, 6, 14, 15, 18] [252, 253]) (xu (xu I2 250 16 (nI C.1)) 250 17 (nI C.2)) I' → al m 160 C.1 e = none → (J = J ∧ P = P ∧ xsm (dF [3, 4, 5, 6, 12, 13, 14, 15, 16, 17, 18] [252, 253]) I I' ∧ xOp (af m p e) 0 (fun q => I' 250 12 = nI q.1.1 ∧ I' 250 13 = nI q.1.2 ∧ I' 250 16 = nI q.2.1.1 ∧ I' 250 17 = nI q.2.1.2)) := fun I' h0 hn => ⟨rfl, rfl, t2'.trans (h0.F rfl rfl), xOp.n (by rw [haf, hn]; rfl) rfl⟩
        refine ⟨QK m 48 255 p1 e _ J P, c_RF_take hL (hm.sm (t2'.trans (hs0.F (ks' := [3, 4, 5, 6, 12, 13, 14, 15, 16, 17, 18]) (as' := [252, 253]) rfl rfl)) (fun j => rfl)) he (by omega) (by decide) (by decide) rfl, ?_⟩
        intro r4 I4 J4 P4 h4
        obtain ⟨rfl, rfl, s4, o4⟩ := QK_op h4
        have t4 := hs0.trans (s4.K (ks := [3, 4, 5, 6, 14, 15, 18]) (as := [252, 253]) rfl)
        refine (x_op o4 (fun q4 => bad _ t4 (by rw [hv]; simp [al, hne, q4])) (fun s q4 a4 => ?_)).symm
        have b4 := tk_bd (f := s.1) (u := s.2) q4
        rw [a4.2.2, a4.1]
        have t4' := t4.put (a := 250) (k := 6) (v := nI s.1) rfl
        have hmx : ∀ I', xsm (dF [3, 4, 5, 6, 14, 15, 18] [252, 253]) (xu (xu I2 250 16 (nI C.1)) 250 17 (nI C.2)) I' → xMs I' 251 m s.2 := fun I' h0 j hj => hm.sm (t2'.trans (h0.F (ks' := [3, 4, 5, 6, 12, 13, 14, 15, 16, 17, 18]) (as' := [252, 253]) rfl rfl)) (fun j => rfl) j (by omega)
        refine ⟨QA m 14 15 s.1 s.2 _ J P, c_RF_textB hL (hmx _ t4') (by omega) (by omega) rfl, ?_⟩
        intro r5 I5 J5 P5 h5
        obtain ⟨rfl, rfl, s5, o5⟩ := QA_op h5
        have t5 := t4'.trans (s5.F (ks' := [3, 4, 5, 6, 14, 15, 18]) (as' := [252, 253]) rfl rfl)
        refine x_op o5 (fun q5 => bad _ t5 (by rw [hv]; simp [al, hne, q4, q5])) (fun B q5 a5 => ?_)
        have b5 := tk_bd (f := B.1) (u := B.2) q5
        refine ⟨QK m 49 255 B.2 s.2 _ J P, c_RF_take hL (hmx _ t5) (by omega) (by omega) (by decide) (by decide) a5.2.2, ?_⟩
        intro r6 I6 J6 P6 h6
        obtain ⟨rfl, rfl, s6, o6⟩ := QK_op h6
        have t6 := t5.trans (s6.K (ks := [3, 4, 5, 6, 14, 15, 18]) (as := [252, 253]) rfl)
        refine x_op o6 (fun q6 => bad _ t6 (by rw [hv]; simp [al, hne, q4, q5, q6])) (fun W q6 a6 => ?_)
        have b6 := tk_bd (f := W.1) (u := W.2) q6
        rw [a6.1, a6.2.1, a6.2.2]
        refine (pk_eq W.2 s.2 (fun z6 => ?_) (fun z6 => bad _ t6 (by rw [hv]; simp [al, hne, q4, q5, q6, z6]))).symm
        refine (pk_eq W.1 W.2 (fun z7 => bad _ t6 (by rw [hv]; simp [al, hne, q4, q5, q6, z7])) (fun z7 => ?_)).symm
        refine ⟨QV m W.1 s.2 _ J P, c_RF_listValues hL (hmx _ t6) (by omega) (by omega), ?_⟩
        intro r8 I8 J8 P8 h8
        obtain ⟨rfl, rfl, s8, o8⟩ := QV_op h8
        have t8 := t6.trans (s8.F (ks' := [3, 4, 5, 6, 14, 15, 18]) (as' := [252, 253]) rfl rfl)
        refine (x_op o8 (fun q8 => bad _ t8 (by rw [hv]; simp [al, hne, q4, q5, q6, if_pos z6, q8])) (fun L q8 a8 => ?_)).symm
        refine ih (L0 ++ [(B, L)]) s.2 I8 (by omega) (by omega) t8 ?_
        rw [hv]
        simp only [al, if_neg hne, q4, q5, q6, if_pos z6, if_neg z7, q8, Option.bind_some]
        cases al m k s.2 e <;> simp
  exact loop 160 [] C.1 _ (by omega) (by omega) xsm.rfl (by cases al m 160 C.1 e <;> rfl)

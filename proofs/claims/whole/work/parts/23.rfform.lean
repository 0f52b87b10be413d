/-! the reference's forms of the requests, but for ADD and SEARCH -/
def xOp {α : Type} (o : Option α) (r : Int32) (A : α → Prop) : Prop := match o with
  | some q => r = 1 ∧ A q
  | none => r = 0
theorem xOp.n {α : Type} {r : Int32} {A : α → Prop} {o : Option α} (h : o = none) (hr : r = 0) : xOp o r A := by rw [h]; exact hr
theorem xOp.s {α : Type} {r : Int32} {A : α → Prop} {o : Option α} {q : α} (h : o = some q) (hr : r = 1) (hA : A q) : xOp o r A := by rw [h]; exact ⟨hr, hA⟩
theorem x_op {α : Type} {o : Option α} {r : Int32} {A : α → Prop} {X Y : Prop} (h : xOp o r A) (hn : o = none → X) (hs : ∀ q, o = some q → A q → Y) : (r = 0 → X) ∧ (¬ r = 0 → Y) := by
  cases ho : o with
  | none =>
    rw [ho] at h
    have h : r = 0 := h
    exact ⟨fun _ => hn ho, fun c => absurd h c⟩
  | some q =>
    rw [ho] at h
    obtain ⟨h1, h2⟩ := h
    exact ⟨fun c => absurd (h1.symm.trans c) (by decide), fun _ => hs q ho h2⟩
theorem QK_op {m : Nat → Nat} {w most p e : Nat} {I I' : xIt} {J J' : xJt} {P P' : xPt} {r : Int32} (h : QK m w most p e I J P r I' J' P') : J = J' ∧ P = P' ∧ xsm dK I I' ∧ xOp (tk m w most p e) r (fun q => I' 250 4 = nI q.1 ∧ I' 250 5 = nI q.2 ∧ I' 250 6 = nI q.2) := by
  obtain ⟨a, b, c, d⟩ := h
  refine ⟨a, b, c, ?_⟩
  revert d
  cases tk m w most p e <;> exact id
theorem QI_op {m : Nat → Nat} {p e : Nat} {I I' : xIt} {J J' : xJt} {P P' : xPt} {r : Int32} (h : QI m p e I J P r I' J' P') : J = J' ∧ P = P' ∧ xsm dI I I' ∧ xOp (ig m p e) r (fun q => I' 250 7 = q.1 ∧ I' 250 6 = nI q.2) := by
  obtain ⟨a, b, c, d⟩ := h
  refine ⟨a, b, c, ?_⟩
  revert d
  cases ig m p e <;> exact id
theorem QS_op {m : Nat → Nat} {w p e : Nat} {I I' : xIt} {J J' : xJt} {P P' : xPt} {r : Int32} (h : QS m w p e I J P r I' J' P') : J = J' ∧ P = P' ∧ xsm dI I I' ∧ xOp (sg m w p e) r (fun q => I' 250 7 = nI q.1 ∧ I' 250 6 = nI q.2) := by
  obtain ⟨a, b, c, d⟩ := h
  refine ⟨a, b, c, ?_⟩
  revert d
  cases sg m w p e <;> exact id
theorem QA_op {m : Nat → Nat} {k1 k2 p e : Nat} {I I' : xIt} {J J' : xJt} {P P' : xPt} {r : Int32} (h : QA m k1 k2 p e I J P r I' J' P') : J = J' ∧ P = P' ∧ xsm (dF [3, 4, 5, 6, k1, k2] []) I I' ∧ xOp (tk m 4 30 p e) r (fun q => I' 250 k1 = nI q.1 ∧ I' 250 k2 = nI q.2 ∧ I' 250 6 = nI q.2) := by
  obtain ⟨a, b, c, d⟩ := h
  refine ⟨a, b, c, ?_⟩
  revert d
  cases tk m 4 30 p e <;> exact id
theorem QV_op {m : Nat → Nat} {p e : Nat} {I I' : xIt} {J J' : xJt} {P P' : xPt} {r : Int32} (h : QV m p e I J P r I' J' P') : J = J' ∧ P = P' ∧ xsm (dF [3, 4, 5, 6, 18] [252, 253]) I I' ∧ xOp (vl m 8 p e) r (fun L => L.length ≤ 8 ∧ I' 250 18 = nI L.length ∧ xVs I' L) := by
  obtain ⟨a, b, c, d⟩ := h
  refine ⟨a, b, c, ?_⟩
  revert d
  cases vl m 8 p e <;> exact id
theorem ig_bd {m : Nat → Nat} {p e : Nat} {q : Int32 × Nat} (h : ig m p e = some q) : p + 2 < q.2 ∧ q.2 ≤ e := by
  unfold ig at h
  cases ht : tk m 2 2 p e with
  | none => rw [ht] at h; cases h
  | some r =>
    obtain ⟨f, u⟩ := r
    rw [ht] at h
    have b := tk_bd ht
    by_cases h1 : f = u
    · simp [h1] at h
    · by_cases h2 : u - f = 1
      · simp only [if_neg h1, if_pos h2] at h
        cases h
        exact ⟨by show p + 2 < u; omega, b.2.2.2.2.1⟩
      · simp only [if_neg h1, if_neg h2] at h
        cases h
        exact ⟨by show p + 2 < u; omega, b.2.2.2.2.1⟩
theorem sg_bd {m : Nat → Nat} {w p e : Nat} {q : Nat × Nat} (hb : ∀ j, j < e → m j < 256) (h : sg m w p e = some q) : p + 2 < q.2 ∧ q.2 ≤ e ∧ q.1 < 256 := by
  unfold sg at h
  cases ht : tk m w 1 p e with
  | none => rw [ht] at h; cases h
  | some r =>
    obtain ⟨f, u⟩ := r
    rw [ht] at h
    have b := tk_bd ht
    by_cases h1 : f = u
    · simp [h1] at h
    · simp only [if_neg h1] at h
      cases h
      exact ⟨by show p + 2 < u; omega, b.2.2.2.2.1, hb f (by omega)⟩
def bf (m : Nat → Nat) (p e : Nat) : Option (Int32 × (Nat × Nat) × (Nat × Nat)) := (ig m p e).bind fun n => (tk m 4 30 n.2 e).bind fun A => (tk m 128 30 A.2 e).bind fun C => some (n.1, A, C)
set_option maxRecDepth 20000 in
theorem c_RF_bindForm {l : Launch} {V : xV} {I : xIt} {J : xJt} {P : xPt} {m : Nat → Nat} {p e : Nat} (hL : xL P) (hm : xMs I 251 m e) (he : e ≤ 160) (hp : p < 900) (hat : I 250 6 = nI p) : xMet l V y_RF_bindForm 4 0 0 [xq (some 250), xi (nI e)] xS0 I J P (xPi (fun r I' J' P' => J = J' ∧ P = P' ∧ xsm (dF [3, 4, 5, 6, 7, 10, 12, 13, 16, 17] []) I I' ∧ xOp (bf m p e) r (fun q => I' 250 10 = q.1 ∧ I' 250 12 = nI q.2.1.1 ∧ I' 250 13 = nI q.2.1.2 ∧ I' 250 16 = nI q.2.2.1 ∧ I' 250 17 = nI q.2.2.2 ∧ I' 250 6 = nI q.2.2.2))) := by
  refine e_RF_bindForm (b_RF_bindForm_0 hL ⟨QI m p e I J P, c_RF_integer hL hm he (by omega) hat, ?_⟩)
  intro r1 I1 J1 P1 h1
  obtain ⟨rfl, rfl, s1, o1⟩ := QI_op h1
  have t1 : xsm (dF [3, 4, 5, 6, 7, 10, 12, 13, 16, 17] []) I I1 := s1.I rfl
  refine (x_op o1 (fun q1 => ⟨rfl, rfl, t1, xOp.n (by simp [bf, q1]) rfl⟩) (fun n q1 a1 => ?_)).symm
  have b1 := ig_bd q1
  have t1' := t1.put (a := 250) (k := 10) (v := I1 250 7) rfl
  refine ⟨QA m 12 13 n.2 e _ J P, c_RF_textA hL (hm.sm t1' (fun j => rfl)) he (by omega) a1.2, ?_⟩
  intro r2 I2 J2 P2 h2
  obtain ⟨rfl, rfl, s2, o2⟩ := QA_op h2
  have t2 := t1'.trans (s2.F (ks' := [3, 4, 5, 6, 7, 10, 12, 13, 16, 17]) (as' := []) rfl rfl)
  refine x_op o2 (fun q2 => ⟨rfl, rfl, t2, xOp.n (by simp [bf, q1, q2]) rfl⟩) (fun A q2 a2 => ?_)
  have b2 := tk_bd (f := A.1) (u := A.2) q2
  refine ⟨QK m 128 30 A.2 e _ J P, c_RF_take hL (hm.sm t2 (fun j => rfl)) he (by omega) (by decide) (by decide) a2.2.2, ?_⟩
  intro r3 I3 J3 P3 h3
  obtain ⟨rfl, rfl, s3, o3⟩ := QK_op h3
  have t3 := t2.trans (s3.K (ks := [3, 4, 5, 6, 7, 10, 12, 13, 16, 17]) (as := []) rfl)
  refine x_op o3 (fun q3 => ⟨rfl, rfl, t3, xOp.n (by simp [bf, q1, q2, q3]) rfl⟩) (fun C q3 a3 => ?_)
  refine ⟨_, c_RF_keepC hL, ?_⟩
  rintro r4 I4 _ _ ⟨rfl, rfl, rfl, rfl⟩
  refine ⟨fun c => absurd c (by decide), fun _ => ⟨rfl, rfl, (t3.put rfl).put rfl, xOp.s (q := (n.1, A, C)) (by simp [bf, q1, q2, q3]) rfl ?_⟩⟩
  refine ⟨?_, ?_, ?_, a3.1, a3.2.1, a3.2.2⟩
  · exact (s3 250 10 rfl).trans ((s2 250 10 rfl).trans a1.1)
  · exact (s3 250 12 rfl).trans a2.1
  · exact (s3 250 13 rfl).trans a2.2.1
def cf (m : Nat → Nat) (p e : Nat) : Option ((Nat × Nat) × (Nat × Nat) × (Nat × Nat)) := (tk m 4 30 p e).bind fun A => (tk m 48 255 A.2 e).bind fun s => if s.2 = e then (tk m 4 30 s.1 e).bind fun B => (tk m 4 30 B.2 e).bind fun C => if C.2 = e then some (A, B, C) else none else none
set_option maxRecDepth 20000 in
theorem c_RF_compareForm {l : Launch} {V : xV} {I : xIt} {J : xJt} {P : xPt} {m : Nat → Nat} {p e : Nat} (hL : xL P) (hm : xMs I 251 m e) (he : e ≤ 160) (hp : p < 900) (hat : I 250 6 = nI p) : xMet l V y_RF_compareForm 4 0 0 [xq (some 250), xi (nI e)] xS0 I J P (xPi (fun r I' J' P' => J = J' ∧ P = P' ∧ xsm (dF [3, 4, 5, 6, 12, 13, 14, 15, 16, 17] []) I I' ∧ xOp (cf m p e) r (fun q => I' 250 12 = nI q.1.1 ∧ I' 250 13 = nI q.1.2 ∧ I' 250 14 = nI q.2.1.1 ∧ I' 250 15 = nI q.2.1.2 ∧ I' 250 16 = nI q.2.2.1 ∧ I' 250 17 = nI q.2.2.2))) := by
  refine e_RF_compareForm (b_RF_compareForm_0 hL ⟨QA m 12 13 p e I J P, c_RF_textA hL hm he (by omega) hat, ?_⟩)
  intro r1 I1 J1 P1 h1
  obtain ⟨rfl, rfl, s1, o1⟩ := QA_op h1
  have t1 := s1.F (ks' := [3, 4, 5, 6, 12, 13, 14, 15, 16, 17]) (as' := []) rfl rfl
  refine x_op o1 (fun q1 => ⟨rfl, rfl, t1, xOp.n (by simp [cf, q1]) rfl⟩) (fun A q1 a1 => ?_)
  have b1 := tk_bd (f := A.1) (u := A.2) q1
  refine ⟨QK m 48 255 A.2 e _ J P, c_RF_take hL (hm.sm t1 (fun j => rfl)) he (by omega) (by decide) (by decide) a1.2.2, ?_⟩
  intro r2 I2 J2 P2 h2
  obtain ⟨rfl, rfl, s2, o2⟩ := QK_op h2
  have t2 := t1.trans (s2.K (ks := [3, 4, 5, 6, 12, 13, 14, 15, 16, 17]) (as := []) rfl)
  refine x_op o2 (fun q2 => ⟨rfl, rfl, t2, xOp.n (by simp [cf, q1, q2]) rfl⟩) (fun s q2 a2 => ?_)
  have b2 := tk_bd (f := s.1) (u := s.2) q2
  rw [a2.2.2, a2.1]
  refine pk_eq s.2 e (fun c => ?_) (fun c => ⟨rfl, rfl, t2, xOp.n (by simp [cf, q1, q2, c]) rfl⟩)
  have t2' := t2.put (a := 250) (k := 6) (v := nI s.1) rfl
  refine ⟨QA m 14 15 s.1 e _ J P, c_RF_textB hL (hm.sm t2' (fun j => rfl)) he (by omega) rfl, ?_⟩
  intro r3 I3 J3 P3 h3
  obtain ⟨rfl, rfl, s3, o3⟩ := QA_op h3
  have t3 := t2'.trans (s3.F (ks' := [3, 4, 5, 6, 12, 13, 14, 15, 16, 17]) (as' := []) rfl rfl)
  refine x_op o3 (fun q3 => ⟨rfl, rfl, t3, xOp.n (by simp [cf, q1, q2, c, q3]) rfl⟩) (fun B q3 a3 => ?_)
  have b3 := tk_bd (f := B.1) (u := B.2) q3
  refine ⟨QK m 4 30 B.2 e _ J P, c_RF_take hL (hm.sm t3 (fun j => rfl)) he (by omega) (by decide) (by decide) a3.2.2, ?_⟩
  intro r4 I4 J4 P4 h4
  obtain ⟨rfl, rfl, s4, o4⟩ := QK_op h4
  have t4 := t3.trans (s4.K (ks := [3, 4, 5, 6, 12, 13, 14, 15, 16, 17]) (as := []) rfl)
  refine x_op o4 (fun q4 => ⟨rfl, rfl, t4, xOp.n (by simp [cf, q1, q2, c, q3, q4]) rfl⟩) (fun C q4 a4 => ?_)
  have b4 := tk_bd (f := C.1) (u := C.2) q4
  refine ⟨_, c_RF_keepC hL, ?_⟩
  rintro r5 I5 _ _ ⟨rfl, rfl, rfl, rfl⟩
  refine ⟨fun z => absurd z (by decide), fun _ => ?_⟩
  have t5 := (t4.put (a := 250) (k := 16) (v := I4 250 4) rfl).put (a := 250) (k := 17) (v := I4 250 5) rfl
  rw [show xu (xu I4 250 16 (I4 250 4)) 250 17 (I4 250 5) 250 6 = nI C.2 from a4.2.2]
  refine (pk_eq C.2 e (fun z => ⟨rfl, rfl, t5, xOp.s (q := (A, B, C)) (by simp [cf, q1, q2, c, q3, q4, z]) rfl ?_⟩) (fun z => ⟨rfl, rfl, t5, xOp.n (by simp [cf, q1, q2, c, q3, q4, z]) rfl⟩)).symm
  refine ⟨?_, ?_, ?_, ?_, a4.1, a4.2.1⟩
  · exact (s4 250 12 rfl).trans ((s3 250 12 rfl).trans ((s2 250 12 rfl).trans a1.1))
  · exact (s4 250 13 rfl).trans ((s3 250 13 rfl).trans ((s2 250 13 rfl).trans a1.2.1))
  · exact (s4 250 14 rfl).trans a3.1
  · exact (s4 250 15 rfl).trans a3.2.1
def mf (m : Nat → Nat) (p e : Nat) : Option ((Nat × Nat) × Nat × (Nat × Nat) × (Nat × Nat) × List (Nat × Nat)) := (tk m 4 30 p e).bind fun A => (sg m 10 A.2 e).bind fun c => if c.1 ≤ 2 then (tk m 4 30 c.2 e).bind fun B => (tk m 49 255 B.2 e).bind fun C => if C.2 = e then (vl m 8 C.1 C.2).bind fun L => some (A, c.1, B, C, L) else none else none
set_option maxRecDepth 20000 in
theorem c_RF_modifyForm {l : Launch} {V : xV} {I : xIt} {J : xJt} {P : xPt} {m : Nat → Nat} {p e : Nat} (hL : xL P) (hm : xMs I 251 m e) (he : e ≤ 160) (hp : p < 900) (hat : I 250 6 = nI p) : xMet l V y_RF_modifyForm 4 0 0 [xq (some 250), xi (nI e)] xS0 I J P (xPi (fun r I' J' P' => J = J' ∧ P = P' ∧ xsm (dF [3, 4, 5, 6, 7, 11, 12, 13, 14, 15, 16, 17, 18] [252, 253]) I I' ∧ xOp (mf m p e) r (fun q => I' 250 12 = nI q.1.1 ∧ I' 250 13 = nI q.1.2 ∧ I' 250 11 = nI q.2.1 ∧ I' 250 14 = nI q.2.2.1.1 ∧ I' 250 15 = nI q.2.2.1.2 ∧ I' 250 16 = nI q.2.2.2.1.1 ∧ I' 250 17 = nI q.2.2.2.1.2))) := by
  refine e_RF_modifyForm (b_RF_modifyForm_0 hL ⟨QA m 12 13 p e I J P, c_RF_textA hL hm he (by omega) hat, ?_⟩)
  intro r1 I1 J1 P1 h1
  obtain ⟨rfl, rfl, s1, o1⟩ := QA_op h1
  have t1 := s1.F (ks' := [3, 4, 5, 6, 7, 11, 12, 13, 14, 15, 16, 17, 18]) (as' := [252, 253]) rfl rfl
  refine x_op o1 (fun q1 => ⟨rfl, rfl, t1, xOp.n (by simp [mf, q1]) rfl⟩) (fun A q1 a1 => ?_)
  have b1 := tk_bd (f := A.1) (u := A.2) q1
  refine ⟨QS m 10 A.2 e _ J P, c_RF_single hL (hm.sm t1 (fun j => rfl)) he (by omega) (by decide) a1.2.2, ?_⟩
  intro r2 I2 J2 P2 h2
  obtain ⟨rfl, rfl, s2, o2⟩ := QS_op h2
  have t2 := t1.trans (s2.I (ks := [3, 4, 5, 6, 7, 11, 12, 13, 14, 15, 16, 17, 18]) (as := [252, 253]) rfl)
  refine x_op o2 (fun q2 => ⟨rfl, rfl, t2, xOp.n (by simp [mf, q1, q2]) rfl⟩) (fun cc q2 a2 => ?_)
  have b2 := sg_bd (fun j hj => (hm j hj).2) q2
  rw [a2.1]
  refine pk_le cc.1 2 (fun c => ?_) (fun c => ⟨rfl, rfl, t2, xOp.n (by simp [mf, q1, q2, show ¬ cc.1 ≤ 2 by omega]) rfl⟩)
  have t2' := t2.put (a := 250) (k := 11) (v := nI cc.1) rfl
  refine ⟨QA m 14 15 cc.2 e _ J P, c_RF_textB hL (hm.sm t2' (fun j => rfl)) he (by omega) a2.2, ?_⟩
  intro r3 I3 J3 P3 h3
  obtain ⟨rfl, rfl, s3, o3⟩ := QA_op h3
  have t3 := t2'.trans (s3.F (ks' := [3, 4, 5, 6, 7, 11, 12, 13, 14, 15, 16, 17, 18]) (as' := [252, 253]) rfl rfl)
  refine x_op o3 (fun q3 => ⟨rfl, rfl, t3, xOp.n (by simp [mf, q1, q2, c, q3]) rfl⟩) (fun B q3 a3 => ?_)
  have b3 := tk_bd (f := B.1) (u := B.2) q3
  refine ⟨QK m 49 255 B.2 e _ J P, c_RF_take hL (hm.sm t3 (fun j => rfl)) he (by omega) (by decide) (by decide) a3.2.2, ?_⟩
  intro r4 I4 J4 P4 h4
  obtain ⟨rfl, rfl, s4, o4⟩ := QK_op h4
  have t4 := t3.trans (s4.K (ks := [3, 4, 5, 6, 7, 11, 12, 13, 14, 15, 16, 17, 18]) (as := [252, 253]) rfl)
  refine x_op o4 (fun q4 => ⟨rfl, rfl, t4, xOp.n (by simp [mf, q1, q2, c, q3, q4]) rfl⟩) (fun C q4 a4 => ?_)
  have b4 := tk_bd (f := C.1) (u := C.2) q4
  rw [a4.1, a4.2.1, a4.2.2]
  refine pk_eq C.2 e (fun z => ?_) (fun z => ⟨rfl, rfl, t4, xOp.n (by simp [mf, q1, q2, c, q3, q4, z]) rfl⟩)
  have t4' := (t4.put (a := 250) (k := 16) (v := nI C.1) rfl).put (a := 250) (k := 17) (v := nI C.2) rfl
  refine ⟨QV m C.1 C.2 _ J P, c_RF_listValues hL (fun j hj => hm.sm t4' (fun j => rfl) j (by omega)) (by omega) (by omega), ?_⟩
  intro r5 I5 J5 P5 h5
  obtain ⟨rfl, rfl, s5, o5⟩ := QV_op h5
  have t5 := t4'.trans (s5.F (ks' := [3, 4, 5, 6, 7, 11, 12, 13, 14, 15, 16, 17, 18]) (as' := [252, 253]) rfl rfl)
  cases q5 : vl m 8 C.1 C.2 with
  | none =>
    rw [q5] at o5
    have o5 : r5 = 0 := o5
    exact ⟨Or.inl o5, rfl, rfl, t5, xOp.n (by simp [mf, q1, q2, c, q3, q4, if_pos z, q5]) o5⟩
  | some L =>
    rw [q5] at o5
    refine ⟨Or.inr o5.1, rfl, rfl, t5, xOp.s (q := (A, cc.1, B, C, L)) (by simp [mf, q1, q2, c, q3, q4, if_pos z, q5]) o5.1 ?_⟩
    refine ⟨?_, ?_, ?_, ?_, ?_, ?_, ?_⟩
    · exact (s5 250 12 rfl).trans ((s4 250 12 rfl).trans ((s3 250 12 rfl).trans ((s2 250 12 rfl).trans a1.1)))
    · exact (s5 250 13 rfl).trans ((s4 250 13 rfl).trans ((s3 250 13 rfl).trans ((s2 250 13 rfl).trans a1.2.1)))
    · exact (s5 250 11 rfl).trans ((s4 250 11 rfl).trans (s3 250 11 rfl))
    · exact (s5 250 14 rfl).trans ((s4 250 14 rfl).trans a3.1)
    · exact (s5 250 15 rfl).trans ((s4 250 15 rfl).trans a3.2.1)
    · exact s5 250 16 rfl
    · exact s5 250 17 rfl
def nf (m : Nat → Nat) (p e : Nat) : Option ((Nat × Nat) × (Nat × Nat) × Nat × Nat) := (tk m 4 30 p e).bind fun A => (tk m 4 30 A.2 e).bind fun B => (sg m 1 B.2 e).bind fun c => some (A, B, c)
set_option maxRecDepth 20000 in
theorem c_RF_renameForm {l : Launch} {V : xV} {I : xIt} {J : xJt} {P : xPt} {m : Nat → Nat} {p e : Nat} (hL : xL P) (hm : xMs I 251 m e) (he : e ≤ 160) (hp : p < 900) (hat : I 250 6 = nI p) : xMet l V y_RF_renameForm 4 0 0 [xq (some 250), xi (nI e)] xS0 I J P (xPi (fun r I' J' P' => J = J' ∧ P = P' ∧ xsm (dF [3, 4, 5, 6, 7, 11, 12, 13, 14, 15] []) I I' ∧ xOp (nf m p e) r (fun q => I' 250 12 = nI q.1.1 ∧ I' 250 13 = nI q.1.2 ∧ I' 250 14 = nI q.2.1.1 ∧ I' 250 15 = nI q.2.1.2 ∧ I' 250 11 = nI q.2.2.1 ∧ I' 250 6 = nI q.2.2.2))) := by
  refine e_RF_renameForm (b_RF_renameForm_0 hL ⟨QA m 12 13 p e I J P, c_RF_textA hL hm he (by omega) hat, ?_⟩)
  intro r1 I1 J1 P1 h1
  obtain ⟨rfl, rfl, s1, o1⟩ := QA_op h1
  have t1 := s1.F (ks' := [3, 4, 5, 6, 7, 11, 12, 13, 14, 15]) (as' := []) rfl rfl
  refine x_op o1 (fun q1 => ⟨rfl, rfl, t1, xOp.n (by simp [nf, q1]) rfl⟩) (fun A q1 a1 => ?_)
  have b1 := tk_bd (f := A.1) (u := A.2) q1
  refine ⟨QA m 14 15 A.2 e _ J P, c_RF_textB hL (hm.sm t1 (fun j => rfl)) he (by omega) a1.2.2, ?_⟩
  intro r2 I2 J2 P2 h2
  obtain ⟨rfl, rfl, s2, o2⟩ := QA_op h2
  have t2 := t1.trans (s2.F (ks' := [3, 4, 5, 6, 7, 11, 12, 13, 14, 15]) (as' := []) rfl rfl)
  refine x_op o2 (fun q2 => ⟨rfl, rfl, t2, xOp.n (by simp [nf, q1, q2]) rfl⟩) (fun B q2 a2 => ?_)
  have b2 := tk_bd (f := B.1) (u := B.2) q2
  refine ⟨QS m 1 B.2 e _ J P, c_RF_single hL (hm.sm t2 (fun j => rfl)) he (by omega) (by decide) a2.2.2, ?_⟩
  intro r3 I3 J3 P3 h3
  obtain ⟨rfl, rfl, s3, o3⟩ := QS_op h3
  have t3 := t2.trans (s3.I (ks := [3, 4, 5, 6, 7, 11, 12, 13, 14, 15]) (as := []) rfl)
  refine (x_op o3 (fun q3 => ⟨rfl, rfl, t3, xOp.n (by simp [nf, q1, q2, q3]) rfl⟩) (fun cc q3 a3 => ?_)).symm
  refine ⟨rfl, rfl, t3.put rfl, xOp.s (q := (A, B, cc)) (by simp [nf, q1, q2, q3]) rfl ⟨?_, ?_, ?_, ?_, a3.1, a3.2⟩⟩
  · exact (s3 250 12 rfl).trans ((s2 250 12 rfl).trans a1.1)
  · exact (s3 250 13 rfl).trans ((s2 250 13 rfl).trans a1.2.1)
  · exact (s3 250 14 rfl).trans a2.1
  · exact (s3 250 15 rfl).trans a2.2.1

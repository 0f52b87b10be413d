/-! the reference's 'formed' -/
abbrev kM : List Nat := [3, 4, 5, 6, 7, 8, 9, 10, 11, 12, 13, 14, 15, 16, 17, 18]
abbrev aM : List Nat := [252, 253, 267, 268, 269]
def fg (m : Nat → Nat) (b e : Nat) : Option (Int32 × Nat × Nat) := (fm m b e).bind fun q => if fok m q.2.1 q.2.2 e = true then some q else none
def QM (m : Nat → Nat) (b e : Nat) (I : xIt) (J : xJt) (P : xPt) : Int32 → xIt → xJt → xPt → Prop := fun r I' J' P' => J = J' ∧ P = P' ∧ xsm (dF kM aM) I I' ∧ xOp (fg m b e) r (fun q => I' 250 8 = q.1 ∧ I' 250 9 = nI q.2.1 ∧ pay m q.2.1 q.2.2 e I')
set_option maxRecDepth 20000 in
theorem c_RF_formed {l : Launch} {V : xV} {I : xIt} {J : xJt} {P : xPt} {m : Nat → Nat} {b e : Nat} (hL : xL P) (hm : xMs I 251 m e) (he : e ≤ 160) (hb : b < 800) : xMet l V y_RF_formed 5 0 0 [xq (some 250), xi (nI b), xi (nI e)] xS0 I J P (xPi (QM m b e I J P)) := by
  have s0 := xsm.rfl (D := dF kM aM) (I := I) |>.put (a := 250) (k := 6) (v := nI b) rfl
  refine e_RF_formed (b_RF_formed_0 hL ⟨QI m b e _ J P, c_RF_integer hL (hm.sm s0 (fun j => rfl)) he (by omega) rfl, ?_⟩)
  intro r1 I1 J1 P1 h1
  obtain ⟨rfl, rfl, s1, o1⟩ := QI_op h1
  have t1 := s0.trans (s1.I (ks := kM) (as := aM) rfl)
  refine x_op o1 (fun q1 => ⟨rfl, rfl, t1, xOp.n (by simp [fg, fm, q1]) rfl⟩) (fun n q1 a1 => ?_)
  have b1 := ig_bd q1
  rw [a1.1, a1.2]
  refine ⟨fun z1 => ?_, fun z1 => ⟨rfl, rfl, t1, xOp.n (by simp [fg, fm, q1, z1]) rfl⟩⟩
  have t1' := t1.put (a := 250) (k := 8) (v := n.1) rfl
  refine ⟨QT m n.2 e _ J P, c_RF_tlv hL (hm.sm t1' (fun j => rfl)) he (by omega), ?_⟩
  intro r2 I2 J2 P2 h2
  obtain ⟨rfl, rfl, s2, o2⟩ := QT_op h2
  have t2 := t1'.trans ((s2.mono (fun _ _ => dT_K)).K (ks := kM) (as := aM) rfl)
  refine x_op o2 (fun q2 => ⟨rfl, rfl, t2, xOp.n (by simp [fg, fm, q1, z1, q2]) rfl⟩) (fun x q2 a2 => ?_)
  obtain ⟨t, f, u⟩ := x
  have b2 := tl_bd q2
  have ht6 : t < 256 := by rw [b2.1]; exact (hm n.2 (by omega)).2
  have h8 : I2 250 8 = n.1 := s2 250 8 rfl
  rw [a2.1, a2.2.1, a2.2.2]
  refine pk_eq u e (fun z2 => ?_) (fun z2 => ⟨rfl, rfl, t2, xOp.n (by simp [fg, fm, q1, z1, q2, z2]) rfl⟩)
  subst z2
  have hfg : fg m b u = if fok m t f u = true then some (n.1, t, f) else none := by simp [fg, fm, q1, z1, q2]
  have t3 := (t2.put (a := 250) (k := 9) (v := nI t) rfl).put (a := 250) (k := 6) (v := nI f) rfl
  have hm3 := hm.sm t3 (fun j => rfl)
  have no : ∀ I', xsm (dF kM aM) I I' → fok m t f u = false → QM m b u I J P 0 I' J P := fun I' h hk => ⟨rfl, rfl, h, xOp.n (by rw [hfg, hk]; rfl) rfl⟩
  have yes : ∀ I', xsm (dF kM aM) I I' → fok m t f u = true → I' 250 8 = n.1 → I' 250 9 = nI t → pay m t f u I' → QM m b u I J P 1 I' J P := fun I' h hk g8 g9 hp => ⟨rfl, rfl, h, xOp.s (q := (n.1, t, f)) (by rw [hfg, hk]; rfl) rfl ⟨g8, g9, hp⟩⟩
  refine (pk_eq t 66 (fun c => ?_) (fun c66 => (pk_eq t 74 (fun c => ?_) (fun c74 => (pk_eq t 96 (fun c => ?_) (fun c96 => (pk_eq t 110 (fun c => ?_) (fun c110 => (pk_eq t 104 (fun c => ?_) (fun c104 => (pk_eq t 102 (fun c => ?_) (fun c102 => (pk_eq t 108 (fun c => ?_) (fun c108 => (pk_eq t 99 (fun c => ?_) (fun c99 => ?_)).symm)).symm)).symm)).symm)).symm)).symm)).symm)).symm
  · subst c
    refine (pk_eq f u (fun z => yes _ t3 (by simp [fok, z]) h8 rfl ?_) (fun z => no _ t3 (by simp [fok, z]))).symm
    exact ⟨fun w => absurd w (by decide), fun w => absurd w (by decide), fun w => absurd w (by decide), fun w => absurd w (by decide), fun w => absurd w (by decide), fun w => absurd w (by decide), fun w => absurd w (by decide)⟩
  · subst c
    rw [pk_sub b2.2.2.2.1]
    have t4 := (t3.put (a := 250) (k := 12) (v := nI f) rfl).put (a := 250) (k := 13) (v := nI u) rfl
    refine pk_lt 30 (u - f) (fun z => no _ t4 (by simp [fok]; omega)) (fun z => yes _ t4 (by simp [fok]; omega) h8 rfl ?_)
    exact ⟨fun _ => ⟨rfl, rfl⟩, fun w => absurd w (by decide), fun w => absurd w (by decide), fun w => absurd w (by decide), fun w => absurd w (by decide), fun w => absurd w (by decide), fun w => absurd w (by decide)⟩
  · subst c
    refine ⟨_, c_RF_bindForm (p := f) hL hm3 he (by omega) rfl, ?_⟩
    rintro r3 I3 _ _ ⟨rfl, rfl, s3, o3⟩
    have t4 := t3.trans (s3.F (ks' := kM) (as' := aM) rfl rfl)
    refine x_op o3 (fun q3 => no _ t4 (by simp [fok, q3])) (fun q q3 a3 => ?_)
    have hq : q.2.2.2 ≤ u := by
      unfold bf at q3
      obtain ⟨n', -, q3⟩ := Option.bind_eq_some_iff.mp q3
      obtain ⟨A, -, q3⟩ := Option.bind_eq_some_iff.mp q3
      obtain ⟨C, hC, q3⟩ := Option.bind_eq_some_iff.mp q3
      cases q3
      exact (tk_bd (f := C.1) (u := C.2) hC).2.2.2.2.1
    rw [a3.2.2.2.2.2]
    refine (pk_eq q.2.2.2 u (fun z => yes _ t4 (by simp [fok, q3, z]) ((s3 250 8 rfl).trans h8) (s3 250 9 rfl) ?_) (fun z => no _ t4 (by simp [fok, q3, z]))).symm
    exact ⟨fun w => absurd w (by decide), fun _ q' hq' => by rw [q3] at hq'; cases hq'; exact ⟨a3.1, a3.2.1, a3.2.2.1, a3.2.2.2.1, a3.2.2.2.2.1⟩, fun w => absurd w (by decide), fun w => absurd w (by decide), fun w => absurd w (by decide), fun w => absurd w (by decide), fun w => absurd w (by decide)⟩
  · subst c
    refine ⟨_, c_RF_compareForm (p := f) hL hm3 he (by omega) rfl, ?_⟩
    rintro r3 I3 _ _ ⟨rfl, rfl, s3, o3⟩
    have t4 := t3.trans (s3.F (ks' := kM) (as' := aM) rfl rfl)
    cases q3 : cf m f u with
    | none => rw [q3] at o3; have o3 : r3 = 0 := o3; subst o3; exact ⟨Or.inl rfl, no _ t4 (by simp [fok, q3])⟩
    | some q =>
      rw [q3] at o3
      obtain ⟨rfl, a3⟩ := o3
      refine ⟨Or.inr rfl, yes _ t4 (by simp [fok, q3]) ((s3 250 8 rfl).trans h8) (s3 250 9 rfl) ?_⟩
      exact ⟨fun w => absurd w (by decide), fun w => absurd w (by decide), fun _ q' hq' => by rw [q3] at hq'; cases hq'; exact a3, fun w => absurd w (by decide), fun w => absurd w (by decide), fun w => absurd w (by decide), fun w => absurd w (by decide)⟩
  · subst c
    refine ⟨_, c_RF_addForm (p := f) hL hm3 he (by omega) rfl, ?_⟩
    rintro r3 I3 _ _ ⟨rfl, rfl, s3, o3⟩
    have t4 := t3.trans (s3.F (ks' := kM) (as' := aM) rfl rfl)
    cases q3 : af m f u with
    | none => rw [q3] at o3; have o3 : r3 = 0 := o3; subst o3; exact ⟨Or.inl rfl, no _ t4 (by simp [fok, q3])⟩
    | some q =>
      rw [q3] at o3
      obtain ⟨rfl, a3⟩ := o3
      refine ⟨Or.inr rfl, yes _ t4 (by simp [fok, q3]) ((s3 250 8 rfl).trans h8) (s3 250 9 rfl) ?_⟩
      exact ⟨fun w => absurd w (by decide), fun w => absurd w (by decide), fun w => absurd w (by decide), fun _ q' hq' => by rw [q3] at hq'; cases hq'; exact a3, fun w => absurd w (by decide), fun w => absurd w (by decide), fun w => absurd w (by decide)⟩
  · subst c
    refine ⟨_, c_RF_modifyForm (p := f) hL hm3 he (by omega) rfl, ?_⟩
    rintro r3 I3 _ _ ⟨rfl, rfl, s3, o3⟩
    have t4 := t3.trans (s3.F (ks' := kM) (as' := aM) rfl rfl)
    cases q3 : mf m f u with
    | none => rw [q3] at o3; have o3 : r3 = 0 := o3; subst o3; exact ⟨Or.inl rfl, no _ t4 (by simp [fok, q3])⟩
    | some q =>
      rw [q3] at o3
      obtain ⟨rfl, a3⟩ := o3
      refine ⟨Or.inr rfl, yes _ t4 (by simp [fok, q3]) ((s3 250 8 rfl).trans h8) (s3 250 9 rfl) ?_⟩
      exact ⟨fun w => absurd w (by decide), fun w => absurd w (by decide), fun w => absurd w (by decide), fun w => absurd w (by decide), fun _ q' hq' => by rw [q3] at hq'; cases hq'; exact a3, fun w => absurd w (by decide), fun w => absurd w (by decide)⟩
  · subst c
    refine ⟨_, c_RF_renameForm (p := f) hL hm3 he (by omega) rfl, ?_⟩
    rintro r3 I3 _ _ ⟨rfl, rfl, s3, o3⟩
    have t4 := t3.trans (s3.F (ks' := kM) (as' := aM) rfl rfl)
    refine x_op o3 (fun q3 => no _ t4 (by simp [fok, q3])) (fun q q3 a3 => ?_)
    have hq : q.2.2.2 ≤ u := by
      unfold nf at q3
      obtain ⟨A, -, q3⟩ := Option.bind_eq_some_iff.mp q3
      obtain ⟨B, -, q3⟩ := Option.bind_eq_some_iff.mp q3
      obtain ⟨C, hC, q3⟩ := Option.bind_eq_some_iff.mp q3
      cases q3
      exact (sg_bd (fun j hj => (hm j hj).2) hC).2.1
    rw [a3.2.2.2.2.2]
    refine (pk_eq q.2.2.2 u (fun z => yes _ t4 (by simp [fok, q3, z]) ((s3 250 8 rfl).trans h8) (s3 250 9 rfl) ?_) (fun z => no _ t4 (by simp [fok, q3, z]))).symm
    exact ⟨fun w => absurd w (by decide), fun w => absurd w (by decide), fun w => absurd w (by decide), fun w => absurd w (by decide), fun w => absurd w (by decide), fun _ q' hq' => by rw [q3] at hq'; cases hq'; exact ⟨a3.1, a3.2.1, a3.2.2.1, a3.2.2.2.1, a3.2.2.2.2.1⟩, fun w => absurd w (by decide)⟩
  · subst c
    refine ⟨_, c_RF_searchForm (p := f) hL hm3 he (by omega) rfl, ?_⟩
    rintro r3 I3 _ _ ⟨rfl, rfl, s3, o3⟩
    have t4 := t3.trans (s3.F (ks' := kM) (as' := aM) rfl rfl)
    refine x_op o3 (fun q3 => no _ t4 (by simp [fok, q3])) (fun q q3 a3 => yes _ t4 (by simp [fok, q3]) ((s3 250 8 rfl).trans h8) (s3 250 9 rfl) ?_)
    exact ⟨fun w => absurd w (by decide), fun w => absurd w (by decide), fun w => absurd w (by decide), fun w => absurd w (by decide), fun w => absurd w (by decide), fun w => absurd w (by decide), fun _ q' hq' => by rw [q3] at hq'; cases hq'; exact a3⟩
  · exact no _ t3 (by simp [fok, c66, c74, c96, c110, c104, c102, c108, c99])

/-! the reference's form of SEARCH and of a message -/
def sf (m : Nat → Nat) (p e : Nat) : Option ((Nat × Nat) × Nat × Int32 × Nat × List (Nat × Nat × Nat × Nat)) := (tk m 4 30 p e).bind fun A => (sg m 10 A.2 e).bind fun c => if c.1 ≤ 2 then (ig m c.2 e).bind fun n => if 0 ≤ n.1 then (tl m n.2 e).bind fun x => if x.2.2 = e then (sq m 200 n.2 e 0 0 0).bind fun R => if R.2 = 1 then some (A, c.1, n.1, n.2, R.1) else none else none else none else none
abbrev kS : List Nat := [3, 4, 5, 6, 7, 10, 11, 12, 13, 16, 17]
abbrev aS : List Nat := [267, 268, 269]
set_option maxRecDepth 20000 in
theorem c_RF_searchForm {l : Launch} {V : xV} {I : xIt} {J : xJt} {P : xPt} {m : Nat → Nat} {p e : Nat} (hL : xL P) (hm : xMs I 251 m e) (he : e ≤ 160) (hp : p < 900) (hat : I 250 6 = nI p) : xMet l V y_RF_searchForm 4 0 0 [xq (some 250), xi (nI e)] xS0 I J P (xPi (fun r I' J' P' => J = J' ∧ P = P' ∧ xsm (dF kS aS) I I' ∧ xOp (sf m p e) r (fun q => I' 250 12 = nI q.1.1 ∧ I' 250 13 = nI q.1.2 ∧ I' 250 11 = nI q.2.1 ∧ I' 250 10 = q.2.2.1 ∧ I' 250 16 = nI q.2.2.2.1 ∧ I' 250 17 = nI e))) := by
  refine e_RF_searchForm (b_RF_searchForm_0 hL ⟨QA m 12 13 p e I J P, c_RF_textA hL hm he (by omega) hat, ?_⟩)
  intro r1 I1 J1 P1 h1
  obtain ⟨rfl, rfl, s1, o1⟩ := QA_op h1
  have t1 := s1.F (ks' := kS) (as' := aS) rfl rfl
  refine x_op o1 (fun q1 => ⟨rfl, rfl, t1, xOp.n (by simp [sf, q1]) rfl⟩) (fun A q1 a1 => ?_)
  have b1 := tk_bd (f := A.1) (u := A.2) q1
  refine ⟨QS m 10 A.2 e _ J P, c_RF_single hL (hm.sm t1 (fun j => rfl)) he (by omega) (by decide) a1.2.2, ?_⟩
  intro r2 I2 J2 P2 h2
  obtain ⟨rfl, rfl, s2, o2⟩ := QS_op h2
  have t2 := t1.trans (s2.I (ks := kS) (as := aS) rfl)
  refine x_op o2 (fun q2 => ⟨rfl, rfl, t2, xOp.n (by simp [sf, q1, q2]) rfl⟩) (fun cc q2 a2 => ?_)
  have b2 := sg_bd (fun j hj => (hm j hj).2) q2
  rw [a2.1]
  refine pk_le cc.1 2 (fun c => ?_) (fun c => ⟨rfl, rfl, t2, xOp.n (by simp [sf, q1, q2, show ¬ cc.1 ≤ 2 by omega]) rfl⟩)
  have t2' := t2.put (a := 250) (k := 11) (v := nI cc.1) rfl
  refine ⟨QI m cc.2 e _ J P, c_RF_integer hL (hm.sm t2' (fun j => rfl)) he (by omega) a2.2, ?_⟩
  intro r3 I3 J3 P3 h3
  obtain ⟨rfl, rfl, s3, o3⟩ := QI_op h3
  have t3 := t2'.trans (s3.I (ks := kS) (as := aS) rfl)
  refine x_op o3 (fun q3 => ⟨rfl, rfl, t3, xOp.n (by simp [sf, q1, q2, c, q3]) rfl⟩) (fun n q3 a3 => ?_)
  have b3 := ig_bd q3
  rw [a3.1, a3.2]
  refine ⟨fun z => ?_, fun z => ⟨rfl, rfl, t3, xOp.n (by simp [sf, q1, q2, c, q3, z]) rfl⟩⟩
  have t3' := ((t3.put (a := 250) (k := 10) (v := n.1) rfl).put (a := 250) (k := 16) (v := nI n.2) rfl).put (a := 250) (k := 17) (v := nI e) rfl
  refine ⟨QT m n.2 e _ J P, c_RF_tlv hL (hm.sm t3' (fun j => rfl)) he (by omega), ?_⟩
  intro r4 I4 J4 P4 h4
  obtain ⟨rfl, rfl, s4, o4⟩ := QT_op h4
  have t4 := t3'.trans ((s4.mono (fun _ _ => dT_K)).K (ks := kS) (as := aS) rfl)
  refine x_op o4 (fun q4 => ⟨rfl, rfl, t4, xOp.n (by simp [sf, q1, q2, c, q3, z, q4]) rfl⟩) (fun x q4 a4 => ?_)
  obtain ⟨tt, ff, u⟩ := x
  have b4 := tl_bd q4
  have a46 : I4 250 6 = nI n.2 := (s4 250 6 rfl).trans a3.2
  rw [a4.2.2, a46]
  refine pk_eq u e (fun z5 => ?_) (fun z5 => ⟨rfl, rfl, t4, xOp.n (by simp [sf, q1, q2, c, q3, z, q4, z5]) rfl⟩)
  have t5 := ((t4.put (a := 267) (k := 0) (v := nI e) rfl).put (a := 268) (k := 0) (v := 162) rfl).put (a := 269) (k := 0) (v := 0) rfl
  have hsf : sf m p e = (sq m 200 n.2 e 0 0 0).bind fun R => if R.2 = 1 then some (A, cc.1, n.1, n.2, R.1) else none := by
    simp [sf, q1, q2, c, q3, z, q4, z5]
  have hfin : ∀ I', xsm (dF [3, 4, 5, 6] [267, 268, 269]) (xu (xu (xu I4 267 0 (nI e)) 268 0 162) 269 0 0) I' → I' 250 12 = nI A.1 ∧ I' 250 13 = nI A.2 ∧ I' 250 11 = nI cc.1 ∧ I' 250 10 = n.1 ∧ I' 250 16 = nI n.2 ∧ I' 250 17 = nI e := by
    intro I' h
    refine ⟨?_, ?_, ?_, ?_, ?_, ?_⟩
    · exact (h 250 12 rfl).trans ((s4 250 12 rfl).trans ((s3 250 12 rfl).trans ((s2 250 12 rfl).trans a1.1)))
    · exact (h 250 13 rfl).trans ((s4 250 13 rfl).trans ((s3 250 13 rfl).trans ((s2 250 13 rfl).trans a1.2.1)))
    · exact (h 250 11 rfl).trans ((s4 250 11 rfl).trans (s3 250 11 rfl))
    · exact (h 250 10 rfl).trans (s4 250 10 rfl)
    · exact (h 250 16 rfl).trans (s4 250 16 rfl)
    · exact (h 250 17 rfl).trans (s4 250 17 rfl)
  refine RF_frame (I0 := xu (xu (xu I4 267 0 (nI e)) 268 0 162) 269 0 0) hL (hm.sm t5 (fun j => rfl)) he 200 n.2 e 0 0 0 0 _ (by omega) (by omega) (Nat.le_refl _) (by omega) (by omega) (by omega) xsm.rfl rfl rfl ?_ ?_
  · intro hn I' hs
    exact ⟨rfl, rfl, t5.trans (hs.F rfl rfl), xOp.n (by rw [hsf, hn]; rfl) rfl⟩
  · intro R hR I' hs hk hc
    refine b_RF_searchForm_129 hL ?_
    refine ⟨fun zz => absurd zz (by decide), fun _ => ⟨pk_in 0 8 (by omega), ?_⟩⟩
    rw [pk_cl 0, (hk.1 0 (by omega)).1, (hk.1 0 (by omega)).2, hc]
    refine ⟨fun zz => absurd rfl zz, fun _ => ⟨pk_in 0 8 (by omega), fun zz => absurd rfl zz, fun _ => ⟨pk_in 0 8 (by omega), ?_⟩⟩⟩
    have hl := sq_len m _ _ _ _ _ _ R (by omega) hR
    refine pk_eq (0 + R.2) 1 (fun z6 => ?_) (fun z6 => ⟨rfl, rfl, t5.trans (hs.F rfl rfl), xOp.n (by rw [hsf, hR]; simp only [Option.bind_some]; rw [if_neg (by omega)]) rfl⟩)
    refine b_RF_searchForm_129 hL ⟨fun _ => ⟨rfl, rfl, t5.trans (hs.F rfl rfl), xOp.s (q := (A, cc.1, n.1, n.2, R.1)) (by rw [hsf, hR]; simp only [Option.bind_some]; rw [if_pos (by omega)]) rfl (hfin I' hs)⟩, fun zz => absurd (by decide) zz⟩
/-- a message's number, its request's kind and where the request's content begins -/
def fm (m : Nat → Nat) (b e : Nat) : Option (Int32 × Nat × Nat) := (ig m b e).bind fun n => if 1 ≤ n.1 then (tl m n.2 e).bind fun x => if x.2.2 = e then some (n.1, x.1, x.2.1) else none else none
def fok (m : Nat → Nat) (op f e : Nat) : Bool :=
  if op = 66 then decide (f = e) else if op = 74 then decide (e - f ≤ 30)
  else if op = 96 then (match bf m f e with | some q => decide (q.2.2.2 = e) | none => false)
  else if op = 110 then (cf m f e).isSome else if op = 104 then (af m f e).isSome else if op = 102 then (mf m f e).isSome
  else if op = 108 then (match nf m f e with | some q => decide (q.2.2.2 = e) | none => false)
  else if op = 99 then (sf m f e).isSome else false
/-- what the reference keeps of a request -/
def pay (m : Nat → Nat) (op f e : Nat) (I : xIt) : Prop :=
  (op = 74 → I 250 12 = nI f ∧ I 250 13 = nI e) ∧
  (op = 96 → ∀ q, bf m f e = some q → I 250 10 = q.1 ∧ I 250 12 = nI q.2.1.1 ∧ I 250 13 = nI q.2.1.2 ∧ I 250 16 = nI q.2.2.1 ∧ I 250 17 = nI q.2.2.2) ∧
  (op = 110 → ∀ q, cf m f e = some q → I 250 12 = nI q.1.1 ∧ I 250 13 = nI q.1.2 ∧ I 250 14 = nI q.2.1.1 ∧ I 250 15 = nI q.2.1.2 ∧ I 250 16 = nI q.2.2.1 ∧ I 250 17 = nI q.2.2.2) ∧
  (op = 104 → ∀ q, af m f e = some q → I 250 12 = nI q.1.1 ∧ I 250 13 = nI q.1.2 ∧ I 250 16 = nI q.2.1.1 ∧ I 250 17 = nI q.2.1.2) ∧
  (op = 102 → ∀ q, mf m f e = some q → I 250 12 = nI q.1.1 ∧ I 250 13 = nI q.1.2 ∧ I 250 11 = nI q.2.1 ∧ I 250 14 = nI q.2.2.1.1 ∧ I 250 15 = nI q.2.2.1.2 ∧ I 250 16 = nI q.2.2.2.1.1 ∧ I 250 17 = nI q.2.2.2.1.2) ∧
  (op = 108 → ∀ q, nf m f e = some q → I 250 12 = nI q.1.1 ∧ I 250 13 = nI q.1.2 ∧ I 250 14 = nI q.2.1.1 ∧ I 250 15 = nI q.2.1.2 ∧ I 250 11 = nI q.2.2.1) ∧
  (op = 99 → ∀ q, sf m f e = some q → I 250 12 = nI q.1.1 ∧ I 250 13 = nI q.1.2 ∧ I 250 11 = nI q.2.1 ∧ I 250 10 = q.2.2.1 ∧ I 250 16 = nI q.2.2.2.1 ∧ I 250 17 = nI e)

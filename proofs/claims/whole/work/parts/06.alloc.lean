/-! new cells -/
def xNw (y : xY) (idx ci N : Nat) : Prop := ∃ (C : String) (T : u_T), xCl[ci]? = some (C, T, N) ∧ Jvm.Cond.classLink y.1.cls idx C ∈ xTB ∧ Jvm.Cond.instantiable C N ∈ xTB ∧ Jvm.Cond.initialized C ∈ xTB
section XN
variable {l : Launch} {V : xV} {y : xY} {R : Room} {F : xFin} {pc pc' : Nat} {lv lv' : List (Nat × xX)} {st : List xX} {S : xSh} {I : xIt} {J : xJt} {P : xPt} {b1 b2 : Nat}
theorem xfv_z {a k : Nat} {ty : FieldType} (h : xtk ty = true) : xfv V (xz I a 0) (xz J a 0) (xz P a none) a k ty = defaultValue ty := by
  cases ty <;> first | (simp [xtk] at h; done) | (simp [xfv, xz, defaultValue, va_rf]; done) | rfl
/-- behind a new cell -/
theorem x_born {s : State} {H H1 : Heap} {locs : List Loc} {sh : Nat × Nat} (hP : va_P V.2.1 xCl (xws V S I J P) H) (h3 : H.size = V.1 + S.length) (h4 : va_S (xA V) s.heap H locs) (z : H1.size = H.size + 1) (o1 : ∀ q : Nat, q < H.size → H1[q]? = H[q]?) (he : va_at V.2.1 xCl (V.1 + S.length, xcell V (xz I S.length 0) (xz J S.length 0) (xz P S.length none) S.length sh) H1) :
    va_P V.2.1 xCl (xws V (S ++ [sh]) (xz I S.length 0) (xz J S.length 0) (xz P S.length none)) H1 ∧ H1.size = V.1 + (S ++ [sh]).length ∧ va_S (xA V) s.heap H1 locs := by
  refine ⟨?_, by rw [z, h3, List.length_append]; rfl, Nat.le_trans h4.1 (by omega), fun q h1 h2 => (o1 q (Nat.lt_of_lt_of_le h1 h4.1)).trans (h4.2.1 q h1 h2), h4.2.2⟩
  rw [xws_push rfl]
  refine va_P.app (hP.kept (fun k q hk => o1 q.1 (hP k q hk).lt)) (fun k q hk => ?_)
  have hz : k < 1 := (List.getElem?_eq_some_iff.mp hk).1
  rw [show k = 0 by omega] at hk
  cases hk
  exact he
theorem xG_new {idx ci N : Nat} (hd : xd y pc 3 pc' (.new idx)) (hc : xNw y idx ci N) (kk : xG l V y R F pc' lv (xq (some S.length) :: st) (S ++ [(ci, 0)]) (xz I S.length 0) (xz J S.length 0) (xz P S.length none) (b1, b2)) : xG l V y R F pc lv st S I J P (b1 + 1, b2 + N) := by
  obtain ⟨hd, rfl⟩ := hd
  obtain ⟨C, T, hc, hl, hin, hini⟩ := hc
  obtain ⟨hci, hty, hnm, hws, htk⟩ := xCl_ok hc
  intro p e s m args below meth c Qw B hF H ls locs cells slots h1 h2 h3 h4 h5 h6
  have hKn := B.2.2.2.2.2.2.1.1 ci _ hc
  refine W.newcK B.1 B.2.1 B.2.2.2.2.1 (B.2.2.2.1 _ hl) (B.2.2.2.1 _ hin) (B.2.2.2.1 _ hini) rfl hd (by omega) (by omega) hKn.2.1 h3 fun H1 kC hkC e1 z1 o1 => ?_
  obtain ⟨g1, g2, g3⟩ := x_born (sh := (ci, 0)) h2 h3 h4 (by omega) (fun q hq => o1 q (by omega)) (by
    rw [xcell, if_pos hci]
    refine ⟨_, hc, (u_born (xTy ci) B.2.2.2.1 hws hKn hkC e1 hty).to (fun k hk => ?_)⟩
    show _ = (xfs V _ _ _ S.length ci).getD k .null
    rw [List.getD_eq_getElem?_getD, xfs_get (by rw [xNf_of hc]; exact hk)]
    exact (xfv_z (htk k hk)).symm)
  exact kk p e s m args below meth c Qw B hF H1 ls locs (cells + 1) (slots + N) h1 g1 g2 g3 (by omega) (by omega)
theorem xG_newi {n : Int32} {N : Nat} (hd : xd y pc 2 pc' (.newarray .int)) (hw : Jvm.Cond.arrayClass .int ∈ xTB) (hn : ¬ n < 0) (hN : n.toNatClampNeg = N) (hb : N ≤ 100000) (kk : xG l V y R F pc' lv (xq (some S.length) :: st) (S ++ [(64, N)]) (xz I S.length 0) (xz J S.length 0) (xz P S.length none) (b1, b2)) : xG l V y R F pc lv (xi n :: st) S I J P (b1 + 1, b2 + N) := by
  obtain ⟨hd, rfl⟩ := hd
  intro p e s m args below meth c Qw B hF H ls locs cells slots h1 h2 h3 h4 h5 h6
  refine va_newaK (atype := .int) (rest := st.map (xv V)) B.1 B.2.1 (B.2.2.2.1 _ hw) rfl hd rfl hn hN (by show N * 4 ≤ _; omega) (by omega) (by omega) h3 fun H1 cA e1 z1 o1 _ hfc => ?_
  have hcA : cA = V.2.2.1 0 := Option.some.inj (hfc.symm.trans (B.2.2.2.2.2.2.1.2 0 _ xtys0).2)
  subst hcA
  obtain ⟨g1, g2, g3⟩ := x_born (sh := (64, N)) h2 h3 h4 (by omega) (fun q hq => o1 q (by omega)) (by
    rw [xcell, if_neg (by simp)]
    show H1[_]? = some (vp_cell _ (N, .inl _))
    rw [vp_cell_i, xz_at]
    exact e1)
  exact kk p e s m args below meth c Qw B hF H1 ls locs (cells + 1) (slots + N) h1 g1 g2 g3 (by omega) (by omega)
theorem xG_newj {n : Int32} {N : Nat} (hd : xd y pc 2 pc' (.newarray .long)) (hw : Jvm.Cond.arrayClass .long ∈ xTB) (hn : ¬ n < 0) (hN : n.toNatClampNeg = N) (hb : N ≤ 100000) (kk : xG l V y R F pc' lv (xq (some S.length) :: st) (S ++ [(65, N)]) (xz I S.length 0) (xz J S.length 0) (xz P S.length none) (b1, b2)) : xG l V y R F pc lv (xi n :: st) S I J P (b1 + 1, b2 + N) := by
  obtain ⟨hd, rfl⟩ := hd
  intro p e s m args below meth c Qw B hF H ls locs cells slots h1 h2 h3 h4 h5 h6
  refine va_newaK (atype := .long) (rest := st.map (xv V)) B.1 B.2.1 (B.2.2.2.1 _ hw) rfl hd rfl hn hN (by show N * 8 ≤ _; omega) (by omega) (by omega) h3 fun H1 cA e1 z1 o1 _ hfc => ?_
  have hcA : cA = V.2.2.1 1 := Option.some.inj (hfc.symm.trans (B.2.2.2.2.2.2.1.2 1 _ xtys1).2)
  subst hcA
  obtain ⟨g1, g2, g3⟩ := x_born (sh := (65, N)) h2 h3 h4 (by omega) (fun q hq => o1 q (by omega)) (by
    rw [xcell, if_neg (by simp)]
    show H1[_]? = some (vp_cell _ (N, .inr (.inl _)))
    rw [vp_cell_l, xz_at]
    exact e1)
  exact kk p e s m args below meth c Qw B hF H1 ls locs (cells + 1) (slots + N) h1 g1 g2 g3 (by omega) (by omega)
theorem xG_newq {n : Int32} {N t idx j : Nat} {C : String} (hd : xd y pc 3 pc' (.anewarray idx)) (hl : Jvm.Cond.classLink y.1.cls idx C ∈ xTB) (hw : xAo[j]? = some C) (ht : xAt[t + 2]? = some (.object C)) (hn : ¬ n < 0) (hN : n.toNatClampNeg = N) (hb : N ≤ 100000) (kk : xG l V y R F pc' lv (xq (some S.length) :: st) (S ++ [(t + 66, N)]) (xz I S.length 0) (xz J S.length 0) (xz P S.length none) (b1, b2)) : xG l V y R F pc lv (xi n :: st) S I J P (b1 + 1, b2 + N) := by
  obtain ⟨hd, rfl⟩ := hd
  subst hN
  intro p e s m args below meth c Qw B hF H ls locs cells slots h1 h2 h3 h4 h5 h6
  refine W.anew (rest := st.map (xv V)) B.1 B.2.1 B.2.2.2.2.1 (B.2.2.2.1 _ hl) (va_AO.use (B.2.2.2.2.2.2.2.2.2.2.2 j _ hw)) rfl hd rfl hn (by omega) (by omega) (by omega) fun cA kA comp f1 f2 f3 f4 => ?_
  obtain ⟨kA', comp', k1, k2, k3, k4⟩ := (B.2.2.2.2.2.2.1.2 (t + 2) _ (xtys_get V ht)).2
  have hcA : cA = V.2.2.1 (t + 2) := Option.some.inj (f1.symm.trans k4)
  subst hcA
  generalize hH1 : H.push ({ cls := V.2.2.1 (t + 2), slots := Array.replicate n.toNatClampNeg .null, vm := .none } : Cell) = H1
  have z1 : H1.size = H.size + 1 := by rw [← hH1, Array.size_push]
  have e1 : H1[H.size]? = some (arrV (V.2.2.1 (t + 2)) n.toNatClampNeg (fun _ => .null)) := by rw [← hH1, Array.getElem?_push_size, ← arrV_new]
  have o1 : ∀ q : Nat, q < H.size → H1[q]? = H[q]? := fun q hq => by rw [← hH1, Array.getElem?_push, if_neg (Nat.ne_of_lt hq)]
  obtain ⟨g1, g2, g3⟩ := x_born (sh := (t + 66, n.toNatClampNeg)) h2 h3 h4 z1 o1 (by
    rw [xcell, if_neg (by simp)]
    show H1[_]? = some (vp_cell _ (_, .inr (.inr (.inr (.inr _)))))
    rw [vp_cell_q, xz_at, ← h3]
    exact e1)
  rw [h3]
  exact kk p e s m args below meth c Qw B hF H1 ls locs (cells + 1) (slots + n.toNatClampNeg) h1 g1 g2 g3 (by omega) (by omega)
end XN

/-! ends of methods by their sort, small steps on a state's words; from here on the cells are those that stand when both objects are made -/
/-- the references that no call changes -/
def xL (P : xPt) : Prop := ∀ a k : Nat, xFz a k = true → P a k = xP0 a k
def xPi (Q : Int32 → xIt → xJt → xPt → Prop) : xPo := fun r S I J P => S = xS0 ∧ xL P ∧ ∃ v, r = some (xi v) ∧ Q v I J P
def xPl (Q : Int64 → xIt → xJt → xPt → Prop) : xPo := fun r S I J P => S = xS0 ∧ xL P ∧ ∃ v, r = some (xj v) ∧ Q v I J P
def xPq (Q : Option Nat → xIt → xJt → xPt → Prop) : xPo := fun r S I J P => S = xS0 ∧ xL P ∧ ∃ v, r = some (xq v) ∧ Q v I J P
def xPv (Q : xIt → xJt → xPt → Prop) : xPo := fun r S I J P => S = xS0 ∧ xL P ∧ r = none ∧ Q I J P
theorem x_nb {v : Int32} (h : v = 0 ∨ v = 1) : narrow .boolean (.int v) = .int v := by
  rcases h with rfl | rfl <;> rfl
theorem x_vp {i : Int32} {n : Nat} (h : ¬ (i < 0 ∨ n ≤ i.toNatClampNeg)) : vp_in i n := h
section XT
variable {l : Launch} {V : xV} {y : xY} {R : Room} {F : xFin} {pc : Nat} {lv : List (Nat × xX)} {st : List xX} {S : xSh} {I I' : xIt} {J J' : xJt} {P : xPt} {b : Nat × Nat}
theorem xG_topi {x x' : Int32} (h : x = x') (k : xG l V y R F pc lv (xi x' :: st) S I J P b) : xG l V y R F pc lv (xi x :: st) S I J P b := h ▸ k
theorem xG_topj {x x' : Int64} (h : x = x') (k : xG l V y R F pc lv (xj x' :: st) S I J P b) : xG l V y R F pc lv (xj x :: st) S I J P b := h ▸ k
theorem xG_topq {x x' : Option Nat} (h : x = x') (k : xG l V y R F pc lv (xq x' :: st) S I J P b) : xG l V y R F pc lv (xq x :: st) S I J P b := h ▸ k
theorem xG_hI (h : I = I') (k : xG l V y R F pc lv st S I' J P b) : xG l V y R F pc lv st S I J P b := h ▸ k
theorem xG_hJ (h : J = J') (k : xG l V y R F pc lv st S I J' P b) : xG l V y R F pc lv st S I J P b := h ▸ k
end XT
theorem xS0_len : xS0.length = 273 := by decide +kernel
theorem x_lt0 {a : Nat} {q : Nat × Nat} (h : xS0[a]? = some q) : a < 273 := by
  obtain ⟨h1, -⟩ := List.getElem?_eq_some_iff.mp h
  rw [xS0_len] at h1
  exact h1
theorem xG_pick {l : Launch} {V : xV} {y : xY} {R : Room} {F : xFin} {pc : Nat} {lv lv' : List (Nat × xX)} {st : List xX} {S : xSh} {I : xIt} {J : xJt} {P : xPt} {b : Nat × Nat} (ks : List Nat) (hl : ks.filterMap (fun k => lv[k]?) = lv') (k : xG l V y R F pc lv' st S I J P b) : xG l V y R F pc lv st S I J P b := by
  subst hl
  intro p e s m args below meth c Qw B hF H ls locs cells slots h1 h2 h3 h4 h5 h6
  refine k p e s m args below meth c Qw B hF H ls locs cells slots ⟨h1.1, h1.2.1, fun q hq => h1.2.2 q ?_⟩ h2 h3 h4 h5 h6
  obtain ⟨r, hr, rfl⟩ := List.mem_map.mp hq
  obtain ⟨i, -, hi⟩ := List.mem_filterMap.mp hr
  exact List.mem_map.mpr ⟨r, List.mem_of_getElem? hi, rfl⟩
def xIs (kd : Nat) (x : Option Nat) : Prop := ∀ v, x = some v → ∃ ci k, xS0[v]? = some (ci, k) ∧ ci < 64 ∧ (xCl[ci]?).map (fun q => q.1) = some (if kd = 66 then "DirectorySession$ValueRow" else "DirectorySession$Entry")
section XM
variable {l : Launch} {V : xV} {y : xY} {R : Room} {F : xFin} {pc pc' : Nat} {lv : List (Nat × xX)} {st : List xX} {S : xSh} {I : xIt} {J : xJt} {P : xPt} {b : Nat × Nat}
theorem xG_max {idx : Nat} {a d : Int32} (hd : xd y pc 3 pc' (.invokestatic idx)) (hl : Jvm.Cond.methodLink y.1.cls idx Lib.Math.max.name ∈ xTB) (hs : Jvm.Cond.static Lib.Math.max.name ∈ xTB) (hi : Jvm.Cond.initialized "java/lang/Math" ∈ xTB) (hc : Jvm.Cond.code Lib.Math.max.name Lib.Math.max.code 2 (some .int) ∈ xTB) (hR : 1 ≤ R.frames ∧ 30 ≤ R.locals) (hcat : (st.map (fun v => if xc2 v then 2 else 1)).sum ≤ 8)
    (k : xG l V y R F pc' lv (xi (if a < d then d else a) :: st) S I J P b) : xG l V y R F pc lv (xi d :: xi a :: st) S I J P b := by
  obtain ⟨hd, rfl⟩ := hd
  intro p e s m args below meth c Qw B hF H ls locs cells slots h1 h2 h3 h4 h5 h6
  exact va_mmax (rest := st.map (xv V)) B.1 B.2.1 (B.2.2.1.trans h1.1.symm) B.2.2.2.2.1 (B.2.2.2.1 _ hl) (B.2.2.2.1 _ hs) (B.2.2.2.1 _ hi) (B.2.2.2.1 _ hc) hR.1 (by rw [xcat]; omega) (by omega) (by omega) hd (k p e s m args below meth c Qw B hF H ls locs cells slots h1 h2 h3 h4 h5 h6)
theorem xG_min {idx : Nat} {a d : Int32} (hd : xd y pc 3 pc' (.invokestatic idx)) (hl : Jvm.Cond.methodLink y.1.cls idx Lib.Math.min.name ∈ xTB) (hs : Jvm.Cond.static Lib.Math.min.name ∈ xTB) (hi : Jvm.Cond.initialized "java/lang/Math" ∈ xTB) (hc : Jvm.Cond.code Lib.Math.min.name Lib.Math.min.code 2 (some .int) ∈ xTB) (hR : 1 ≤ R.frames ∧ 30 ≤ R.locals) (hcat : (st.map (fun v => if xc2 v then 2 else 1)).sum ≤ 8)
    (k : xG l V y R F pc' lv (xi (if d < a then d else a) :: st) S I J P b) : xG l V y R F pc lv (xi d :: xi a :: st) S I J P b := by
  obtain ⟨hd, rfl⟩ := hd
  intro p e s m args below meth c Qw B hF H ls locs cells slots h1 h2 h3 h4 h5 h6
  exact va_mmin (rest := st.map (xv V)) B.1 B.2.1 (B.2.2.1.trans h1.1.symm) B.2.2.2.2.1 (B.2.2.2.1 _ hl) (B.2.2.2.1 _ hs) (B.2.2.2.1 _ hi) (B.2.2.2.1 _ hc) hR.1 (by rw [xcat]; omega) (by omega) (by omega) hd (k p e s m args below meth c Qw B hF H ls locs cells slots h1 h2 h3 h4 h5 h6)
end XM

section XR
variable {l : Launch} {V : xV} {y : xY} {R : Room} {F : xFin} {pc pc' : Nat} {lv lv' : List (Nat × xX)} {st : List xX} {S : xSh} {I : xIt} {J : xJt} {P : xPt} {b : Nat × Nat}
theorem xG_iconst {n : Int} {v : Int32} (hd : xd y pc 1 pc' (.iconst n)) (hv : Int32.ofInt n = v) (k : xG l V y R F pc' lv (xi v :: st) S I J P b) : xG l V y R F pc lv (st) S I J P b := by
  obtain ⟨hd, rfl⟩ := hd
  intro p e s m args below meth c Qw B hF H ls locs cells slots h1 h2 h3 h4 h5 h6
  exact lv_iconst B.1 B.2.1 hd hv (k p e s m args below meth c Qw B hF H ls locs cells slots h1 h2 h3 h4 h5 h6)
theorem xG_bipush {n : Int} {v : Int32} (hd : xd y pc 2 pc' (.bipush n)) (hv : (Int8.ofInt n).toInt32 = v) (k : xG l V y R F pc' lv (xi v :: st) S I J P b) : xG l V y R F pc lv (st) S I J P b := by
  obtain ⟨hd, rfl⟩ := hd
  intro p e s m args below meth c Qw B hF H ls locs cells slots h1 h2 h3 h4 h5 h6
  exact lv_bipush B.1 B.2.1 hd hv (k p e s m args below meth c Qw B hF H ls locs cells slots h1 h2 h3 h4 h5 h6)
theorem xG_sipush {n : Int} {v : Int32} (hd : xd y pc 3 pc' (.sipush n)) (hv : (Int16.ofInt n).toInt32 = v) (k : xG l V y R F pc' lv (xi v :: st) S I J P b) : xG l V y R F pc lv (st) S I J P b := by
  obtain ⟨hd, rfl⟩ := hd
  intro p e s m args below meth c Qw B hF H ls locs cells slots h1 h2 h3 h4 h5 h6
  exact lv_sipush B.1 B.2.1 hd hv (k p e s m args below meth c Qw B hF H ls locs cells slots h1 h2 h3 h4 h5 h6)
theorem xG_lconst {n : Fin 2} {v : Int64} (hd : xd y pc 1 pc' (.lconst n)) (hv : Int64.ofNat (n : Nat) = v) (k : xG l V y R F pc' lv (xj v :: st) S I J P b) : xG l V y R F pc lv (st) S I J P b := by
  obtain ⟨hd, rfl⟩ := hd
  intro p e s m args below meth c Qw B hF H ls locs cells slots h1 h2 h3 h4 h5 h6
  exact lv_lconst B.1 B.2.1 hd hv (k p e s m args below meth c Qw B hF H ls locs cells slots h1 h2 h3 h4 h5 h6)
theorem xG_null (hd : xd y pc 1 pc' (.aconst_null)) (k : xG l V y R F pc' lv (xq none :: st) S I J P b) : xG l V y R F pc lv (st) S I J P b := by
  obtain ⟨hd, rfl⟩ := hd
  intro p e s m args below meth c Qw B hF H ls locs cells slots h1 h2 h3 h4 h5 h6
  exact lv_null B.1 B.2.1 hd  (k p e s m args below meth c Qw B hF H ls locs cells slots h1 h2 h3 h4 h5 h6)
theorem xG_ldc {i : Nat} {v : Int32} (hd : xd y pc 2 pc' (.ldc i)) (hw : Jvm.Cond.constant y.1.cls i v ∈ xTB) (k : xG l V y R F pc' lv (xi v :: st) S I J P b) : xG l V y R F pc lv st S I J P b := by
  obtain ⟨hd, rfl⟩ := hd
  intro p e s m args below meth c Qw B hF H ls locs cells slots h1 h2 h3 h4 h5 h6
  exact lv_ldc B.1 B.2.1 B.2.2.2.2.1 (B.2.2.2.1 _ hw) hd (k p e s m args below meth c Qw B hF H ls locs cells slots h1 h2 h3 h4 h5 h6)
theorem xG_ldcw {i : Nat} {v : Int32} (hd : xd y pc 3 pc' (.ldc_w i)) (hw : Jvm.Cond.constant y.1.cls i v ∈ xTB) (k : xG l V y R F pc' lv (xi v :: st) S I J P b) : xG l V y R F pc lv st S I J P b := by
  obtain ⟨hd, rfl⟩ := hd
  intro p e s m args below meth c Qw B hF H ls locs cells slots h1 h2 h3 h4 h5 h6
  exact lv_ldcw B.1 B.2.1 B.2.2.2.2.1 (B.2.2.2.1 _ hw) hd (k p e s m args below meth c Qw B hF H ls locs cells slots h1 h2 h3 h4 h5 h6)
theorem xG_ldc2 {i : Nat} {v : Int64} (hd : xd y pc 3 pc' (.ldc2_w i)) (hw : Jvm.Cond.constantLong y.1.cls i v ∈ xTB) (k : xG l V y R F pc' lv (xj v :: st) S I J P b) : xG l V y R F pc lv st S I J P b := by
  obtain ⟨hd, rfl⟩ := hd
  intro p e s m args below meth c Qw B hF H ls locs cells slots h1 h2 h3 h4 h5 h6
  exact lv_ldc2 B.1 B.2.1 B.2.2.2.2.1 (B.2.2.2.1 _ hw) hd (k p e s m args below meth c Qw B hF H ls locs cells slots h1 h2 h3 h4 h5 h6)
theorem xG_iload_n {q : Fin 4} {i : Nat} {v : Int32} (hd : xd y pc 1 pc' (.iload_n q)) (hi : (q : Nat) = i) (hl : lv.lookup i = some (xi v)) (k : xG l V y R F pc' lv (xi v :: st) S I J P b) : xG l V y R F pc lv st S I J P b := by
  obtain ⟨hd, rfl⟩ := hd
  intro p e s m args below meth c Qw B hF H ls locs cells slots h1 h2 h3 h4 h5 h6
  exact lv_iload_n B.1 B.2.1 hd hi (xl_at h1 hl) (k p e s m args below meth c Qw B hF H ls locs cells slots h1 h2 h3 h4 h5 h6)
theorem xG_iload {i : Nat} {v : Int32} (hd : xd y pc 2 pc' (.iload i)) (hl : lv.lookup i = some (xi v)) (k : xG l V y R F pc' lv (xi v :: st) S I J P b) : xG l V y R F pc lv st S I J P b := by
  obtain ⟨hd, rfl⟩ := hd
  intro p e s m args below meth c Qw B hF H ls locs cells slots h1 h2 h3 h4 h5 h6
  exact lv_iload B.1 B.2.1 hd (xl_at h1 hl) (k p e s m args below meth c Qw B hF H ls locs cells slots h1 h2 h3 h4 h5 h6)
theorem xG_lload_n {q : Fin 4} {i : Nat} {v : Int64} (hd : xd y pc 1 pc' (.lload_n q)) (hi : (q : Nat) = i) (hl : lv.lookup i = some (xj v)) (k : xG l V y R F pc' lv (xj v :: st) S I J P b) : xG l V y R F pc lv st S I J P b := by
  obtain ⟨hd, rfl⟩ := hd
  intro p e s m args below meth c Qw B hF H ls locs cells slots h1 h2 h3 h4 h5 h6
  exact lv_lload_n B.1 B.2.1 hd hi (xl_at h1 hl) (k p e s m args below meth c Qw B hF H ls locs cells slots h1 h2 h3 h4 h5 h6)
theorem xG_lload {i : Nat} {v : Int64} (hd : xd y pc 2 pc' (.lload i)) (hl : lv.lookup i = some (xj v)) (k : xG l V y R F pc' lv (xj v :: st) S I J P b) : xG l V y R F pc lv st S I J P b := by
  obtain ⟨hd, rfl⟩ := hd
  intro p e s m args below meth c Qw B hF H ls locs cells slots h1 h2 h3 h4 h5 h6
  exact lv_lload B.1 B.2.1 hd (xl_at h1 hl) (k p e s m args below meth c Qw B hF H ls locs cells slots h1 h2 h3 h4 h5 h6)
theorem xG_aload_n {q : Fin 4} {i : Nat} {v : xX} (hd : xd y pc 1 pc' (.aload_n q)) (hi : (q : Nat) = i) (hl : lv.lookup i = some v) (hv : xrf v = true) (k : xG l V y R F pc' lv (v :: st) S I J P b) : xG l V y R F pc lv st S I J P b := by
  obtain ⟨hd, rfl⟩ := hd
  intro p e s m args below meth c Qw B hF H ls locs cells slots h1 h2 h3 h4 h5 h6
  have kk := k p e s m args below meth c Qw B hF H ls locs cells slots h1 h2 h3 h4 h5 h6
  have hat := xl_at h1 hl
  rcases v with v | v | r | j
  · cases hv
  · cases hv
  · cases r with
    | none => exact lv_aload_nN B.1 B.2.1 hd hi hat kk
    | some x => exact lv_aload_n B.1 B.2.1 hd hi hat kk
  · exact lv_aload_n B.1 B.2.1 hd hi hat kk
theorem xG_aload {i : Nat} {v : xX} (hd : xd y pc 2 pc' (.aload i)) (hl : lv.lookup i = some v) (hv : xrf v = true) (k : xG l V y R F pc' lv (v :: st) S I J P b) : xG l V y R F pc lv st S I J P b := by
  obtain ⟨hd, rfl⟩ := hd
  intro p e s m args below meth c Qw B hF H ls locs cells slots h1 h2 h3 h4 h5 h6
  have kk := k p e s m args below meth c Qw B hF H ls locs cells slots h1 h2 h3 h4 h5 h6
  have hat := xl_at h1 hl
  rcases v with v | v | r | j
  · cases hv
  · cases hv
  · cases r with
    | none => exact lv_aloadN B.1 B.2.1 hd hat kk
    | some x => exact lv_aload B.1 B.2.1 hd hat kk
  · exact lv_aload B.1 B.2.1 hd hat kk
theorem xG_istore_n {q : Fin 4} {i : Nat} {v : Int32} (hd : xd y pc 1 pc' (.istore_n q)) (hi : (q : Nat) = i) (hn : i < y.2.2.1) (hl : xst lv i (xi v) = lv') (k : xG l V y R F pc' lv' st S I J P b) : xG l V y R F pc lv (xi v :: st) S I J P b := by
  obtain ⟨hd, rfl⟩ := hd
  intro p e s m args below meth c Qw B hF H ls locs cells slots h1 h2 h3 h4 h5 h6
  subst hl
  exact lv_istore_n B.1 B.2.1 hd hi h1 hn (xl_st V lv i (xi v)) (fun ls' h1 => k p e s m args below meth c Qw B hF H ls' locs cells slots h1 h2 h3 h4 h5 h6)
theorem xG_istore {i : Nat} {v : Int32} (hd : xd y pc 2 pc' (.istore i)) (hn : i < y.2.2.1) (hl : xst lv i (xi v) = lv') (k : xG l V y R F pc' lv' st S I J P b) : xG l V y R F pc lv (xi v :: st) S I J P b := by
  obtain ⟨hd, rfl⟩ := hd
  intro p e s m args below meth c Qw B hF H ls locs cells slots h1 h2 h3 h4 h5 h6
  subst hl
  exact lv_istore B.1 B.2.1 hd h1 hn (xl_st V lv i (xi v)) (fun ls' h1 => k p e s m args below meth c Qw B hF H ls' locs cells slots h1 h2 h3 h4 h5 h6)
theorem xG_lstore_n {q : Fin 4} {i : Nat} {v : Int64} (hd : xd y pc 1 pc' (.lstore_n q)) (hi : (q : Nat) = i) (hn : i + 1 < y.2.2.1) (hl : xst2 lv i (xj v) = lv') (k : xG l V y R F pc' lv' st S I J P b) : xG l V y R F pc lv (xj v :: st) S I J P b := by
  obtain ⟨hd, rfl⟩ := hd
  intro p e s m args below meth c Qw B hF H ls locs cells slots h1 h2 h3 h4 h5 h6
  subst hl
  exact lv_lstore_n B.1 B.2.1 hd hi h1 hn (xl_st2 V lv i (xj v)) (fun ls' h1 => k p e s m args below meth c Qw B hF H ls' locs cells slots h1 h2 h3 h4 h5 h6)
theorem xG_lstore {i : Nat} {v : Int64} (hd : xd y pc 2 pc' (.lstore i)) (hn : i + 1 < y.2.2.1) (hl : xst2 lv i (xj v) = lv') (k : xG l V y R F pc' lv' st S I J P b) : xG l V y R F pc lv (xj v :: st) S I J P b := by
  obtain ⟨hd, rfl⟩ := hd
  intro p e s m args below meth c Qw B hF H ls locs cells slots h1 h2 h3 h4 h5 h6
  subst hl
  exact lv_lstore B.1 B.2.1 hd h1 hn (xl_st2 V lv i (xj v)) (fun ls' h1 => k p e s m args below meth c Qw B hF H ls' locs cells slots h1 h2 h3 h4 h5 h6)
theorem xG_astore_n {q : Fin 4} {i : Nat} {v : xX} (hd : xd y pc 1 pc' (.astore_n q)) (hi : (q : Nat) = i) (hn : i < y.2.2.1) (hl : xst lv i v = lv') (hv : xrf v = true) (k : xG l V y R F pc' lv' st S I J P b) : xG l V y R F pc lv (v :: st) S I J P b := by
  obtain ⟨hd, rfl⟩ := hd
  intro p e s m args below meth c Qw B hF H ls locs cells slots h1 h2 h3 h4 h5 h6
  subst hl
  have kk := fun (ls' : Array Slot) (h1 : lv_has ls' y.2.2.1 (xl V (xst lv i v))) => k p e s m args below meth c Qw B hF H ls' locs cells slots h1 h2 h3 h4 h5 h6
  have hat := xl_st V lv i v
  rcases v with v | v | r | j
  · cases hv
  · cases hv
  · cases r with
    | none => exact lv_astore_nN B.1 B.2.1 hd hi h1 hn hat kk
    | some x => exact lv_astore_n B.1 B.2.1 hd hi h1 hn hat kk
  · exact lv_astore_n B.1 B.2.1 hd hi h1 hn hat kk
theorem xG_astore {i : Nat} {v : xX} (hd : xd y pc 2 pc' (.astore i)) (hn : i < y.2.2.1) (hl : xst lv i v = lv') (hv : xrf v = true) (k : xG l V y R F pc' lv' st S I J P b) : xG l V y R F pc lv (v :: st) S I J P b := by
  obtain ⟨hd, rfl⟩ := hd
  intro p e s m args below meth c Qw B hF H ls locs cells slots h1 h2 h3 h4 h5 h6
  subst hl
  have kk := fun (ls' : Array Slot) (h1 : lv_has ls' y.2.2.1 (xl V (xst lv i v))) => k p e s m args below meth c Qw B hF H ls' locs cells slots h1 h2 h3 h4 h5 h6
  have hat := xl_st V lv i v
  rcases v with v | v | r | j
  · cases hv
  · cases hv
  · cases r with
    | none => exact lv_astoreN B.1 B.2.1 hd h1 hn hat kk
    | some x => exact lv_astore B.1 B.2.1 hd h1 hn hat kk
  · exact lv_astore B.1 B.2.1 hd h1 hn hat kk
theorem xG_iinc {i : Nat} {n : Int} {x v : Int32} (hd : xd y pc 3 pc' (.iinc i n)) (hk : lv.lookup i = some (xi x)) (hv : x + Int32.ofInt n = v) (hn : i < y.2.2.1) (hl : xst lv i (xi v) = lv') (k : xG l V y R F pc' lv' st S I J P b) : xG l V y R F pc lv st S I J P b := by
  obtain ⟨hd, rfl⟩ := hd
  intro p e s m args below meth c Qw B hF H ls locs cells slots h1 h2 h3 h4 h5 h6
  subst hl
  obtain ⟨q, hq⟩ := xl_place V hk
  exact lv_iinc B.1 B.2.1 hd h1 hq hv hn (xl_st V lv i (xi v)) (fun ls' h1 => k p e s m args below meth c Qw B hF H ls' locs cells slots h1 h2 h3 h4 h5 h6)
theorem xG_iadd {a d : Int32} (hd : xd y pc 1 pc' (.iadd)) (k : xG l V y R F pc' lv (xi (a + d) :: st) S I J P b) : xG l V y R F pc lv (xi d :: xi a :: st) S I J P b := by
  obtain ⟨hd, rfl⟩ := hd
  intro p e s m args below meth c Qw B hF H ls locs cells slots h1 h2 h3 h4 h5 h6
  exact lv_iadd B.1 B.2.1 hd  (k p e s m args below meth c Qw B hF H ls locs cells slots h1 h2 h3 h4 h5 h6)
theorem xG_isub {a d : Int32} (hd : xd y pc 1 pc' (.isub)) (k : xG l V y R F pc' lv (xi (a - d) :: st) S I J P b) : xG l V y R F pc lv (xi d :: xi a :: st) S I J P b := by
  obtain ⟨hd, rfl⟩ := hd
  intro p e s m args below meth c Qw B hF H ls locs cells slots h1 h2 h3 h4 h5 h6
  exact lv_isub B.1 B.2.1 hd  (k p e s m args below meth c Qw B hF H ls locs cells slots h1 h2 h3 h4 h5 h6)
theorem xG_imul {a d : Int32} (hd : xd y pc 1 pc' (.imul)) (k : xG l V y R F pc' lv (xi (a * d) :: st) S I J P b) : xG l V y R F pc lv (xi d :: xi a :: st) S I J P b := by
  obtain ⟨hd, rfl⟩ := hd
  intro p e s m args below meth c Qw B hF H ls locs cells slots h1 h2 h3 h4 h5 h6
  exact lv_imul B.1 B.2.1 hd  (k p e s m args below meth c Qw B hF H ls locs cells slots h1 h2 h3 h4 h5 h6)
theorem xG_iand {a d : Int32} (hd : xd y pc 1 pc' (.iand)) (k : xG l V y R F pc' lv (xi (a &&& d) :: st) S I J P b) : xG l V y R F pc lv (xi d :: xi a :: st) S I J P b := by
  obtain ⟨hd, rfl⟩ := hd
  intro p e s m args below meth c Qw B hF H ls locs cells slots h1 h2 h3 h4 h5 h6
  exact lv_iand B.1 B.2.1 hd  (k p e s m args below meth c Qw B hF H ls locs cells slots h1 h2 h3 h4 h5 h6)
theorem xG_ior {a d : Int32} (hd : xd y pc 1 pc' (.ior)) (k : xG l V y R F pc' lv (xi (a ||| d) :: st) S I J P b) : xG l V y R F pc lv (xi d :: xi a :: st) S I J P b := by
  obtain ⟨hd, rfl⟩ := hd
  intro p e s m args below meth c Qw B hF H ls locs cells slots h1 h2 h3 h4 h5 h6
  exact lv_ior B.1 B.2.1 hd  (k p e s m args below meth c Qw B hF H ls locs cells slots h1 h2 h3 h4 h5 h6)
theorem xG_ixor {a d : Int32} (hd : xd y pc 1 pc' (.ixor)) (k : xG l V y R F pc' lv (xi (a ^^^ d) :: st) S I J P b) : xG l V y R F pc lv (xi d :: xi a :: st) S I J P b := by
  obtain ⟨hd, rfl⟩ := hd
  intro p e s m args below meth c Qw B hF H ls locs cells slots h1 h2 h3 h4 h5 h6
  exact lv_ixor B.1 B.2.1 hd  (k p e s m args below meth c Qw B hF H ls locs cells slots h1 h2 h3 h4 h5 h6)
theorem xG_ishl {a d : Int32} (hd : xd y pc 1 pc' (.ishl)) (k : xG l V y R F pc' lv (xi (a <<< (d &&& 31)) :: st) S I J P b) : xG l V y R F pc lv (xi d :: xi a :: st) S I J P b := by
  obtain ⟨hd, rfl⟩ := hd
  intro p e s m args below meth c Qw B hF H ls locs cells slots h1 h2 h3 h4 h5 h6
  exact lv_ishl B.1 B.2.1 hd  (k p e s m args below meth c Qw B hF H ls locs cells slots h1 h2 h3 h4 h5 h6)
theorem xG_ishr {a d : Int32} (hd : xd y pc 1 pc' (.ishr)) (k : xG l V y R F pc' lv (xi (a >>> (d &&& 31)) :: st) S I J P b) : xG l V y R F pc lv (xi d :: xi a :: st) S I J P b := by
  obtain ⟨hd, rfl⟩ := hd
  intro p e s m args below meth c Qw B hF H ls locs cells slots h1 h2 h3 h4 h5 h6
  exact lv_ishr B.1 B.2.1 hd  (k p e s m args below meth c Qw B hF H ls locs cells slots h1 h2 h3 h4 h5 h6)
theorem xG_iushr {a d v : Int32} (hd : xd y pc 1 pc' (.iushr)) (hv : (a.toUInt32 >>> (d.toUInt32 &&& Int32.toUInt32 31)).toInt32 = v) (k : xG l V y R F pc' lv (xi v :: st) S I J P b) : xG l V y R F pc lv (xi d :: xi a :: st) S I J P b := by
  obtain ⟨hd, rfl⟩ := hd
  intro p e s m args below meth c Qw B hF H ls locs cells slots h1 h2 h3 h4 h5 h6
  exact lv_iushr B.1 B.2.1 hd hv (k p e s m args below meth c Qw B hF H ls locs cells slots h1 h2 h3 h4 h5 h6)
theorem xG_idiv {a d : Int32} (hd : xd y pc 1 pc' (.idiv)) (hne : ¬ d = 0) (k : xG l V y R F pc' lv (xi (a / d) :: st) S I J P b) : xG l V y R F pc lv (xi d :: xi a :: st) S I J P b := by
  obtain ⟨hd, rfl⟩ := hd
  intro p e s m args below meth c Qw B hF H ls locs cells slots h1 h2 h3 h4 h5 h6
  exact lv_idiv B.1 B.2.1 hd hne (k p e s m args below meth c Qw B hF H ls locs cells slots h1 h2 h3 h4 h5 h6)
theorem xG_irem {a d : Int32} (hd : xd y pc 1 pc' (.irem)) (hne : ¬ d = 0) (k : xG l V y R F pc' lv (xi (a - a / d * d) :: st) S I J P b) : xG l V y R F pc lv (xi d :: xi a :: st) S I J P b := by
  obtain ⟨hd, rfl⟩ := hd
  intro p e s m args below meth c Qw B hF H ls locs cells slots h1 h2 h3 h4 h5 h6
  exact lv_irem B.1 B.2.1 hd hne (k p e s m args below meth c Qw B hF H ls locs cells slots h1 h2 h3 h4 h5 h6)
theorem xG_ineg {a : Int32} (hd : xd y pc 1 pc' (.ineg)) (k : xG l V y R F pc' lv (xi (-a) :: st) S I J P b) : xG l V y R F pc lv (xi a :: st) S I J P b := by
  obtain ⟨hd, rfl⟩ := hd
  intro p e s m args below meth c Qw B hF H ls locs cells slots h1 h2 h3 h4 h5 h6
  exact lv_ineg B.1 B.2.1 hd  (k p e s m args below meth c Qw B hF H ls locs cells slots h1 h2 h3 h4 h5 h6)
theorem xG_ladd {a d : Int64} (hd : xd y pc 1 pc' (.ladd)) (k : xG l V y R F pc' lv (xj (a + d) :: st) S I J P b) : xG l V y R F pc lv (xj d :: xj a :: st) S I J P b := by
  obtain ⟨hd, rfl⟩ := hd
  intro p e s m args below meth c Qw B hF H ls locs cells slots h1 h2 h3 h4 h5 h6
  exact lv_ladd B.1 B.2.1 hd  (k p e s m args below meth c Qw B hF H ls locs cells slots h1 h2 h3 h4 h5 h6)
theorem xG_lsub {a d : Int64} (hd : xd y pc 1 pc' (.lsub)) (k : xG l V y R F pc' lv (xj (a - d) :: st) S I J P b) : xG l V y R F pc lv (xj d :: xj a :: st) S I J P b := by
  obtain ⟨hd, rfl⟩ := hd
  intro p e s m args below meth c Qw B hF H ls locs cells slots h1 h2 h3 h4 h5 h6
  exact lv_lsub B.1 B.2.1 hd  (k p e s m args below meth c Qw B hF H ls locs cells slots h1 h2 h3 h4 h5 h6)
theorem xG_lmul {a d : Int64} (hd : xd y pc 1 pc' (.lmul)) (k : xG l V y R F pc' lv (xj (a * d) :: st) S I J P b) : xG l V y R F pc lv (xj d :: xj a :: st) S I J P b := by
  obtain ⟨hd, rfl⟩ := hd
  intro p e s m args below meth c Qw B hF H ls locs cells slots h1 h2 h3 h4 h5 h6
  exact lv_lmul B.1 B.2.1 hd  (k p e s m args below meth c Qw B hF H ls locs cells slots h1 h2 h3 h4 h5 h6)
theorem xG_land {a d : Int64} (hd : xd y pc 1 pc' (.land)) (k : xG l V y R F pc' lv (xj (a &&& d) :: st) S I J P b) : xG l V y R F pc lv (xj d :: xj a :: st) S I J P b := by
  obtain ⟨hd, rfl⟩ := hd
  intro p e s m args below meth c Qw B hF H ls locs cells slots h1 h2 h3 h4 h5 h6
  exact lv_land B.1 B.2.1 hd  (k p e s m args below meth c Qw B hF H ls locs cells slots h1 h2 h3 h4 h5 h6)
theorem xG_lor {a d : Int64} (hd : xd y pc 1 pc' (.lor)) (k : xG l V y R F pc' lv (xj (a ||| d) :: st) S I J P b) : xG l V y R F pc lv (xj d :: xj a :: st) S I J P b := by
  obtain ⟨hd, rfl⟩ := hd
  intro p e s m args below meth c Qw B hF H ls locs cells slots h1 h2 h3 h4 h5 h6
  exact lv_lor B.1 B.2.1 hd  (k p e s m args below meth c Qw B hF H ls locs cells slots h1 h2 h3 h4 h5 h6)
theorem xG_lxor {a d : Int64} (hd : xd y pc 1 pc' (.lxor)) (k : xG l V y R F pc' lv (xj (a ^^^ d) :: st) S I J P b) : xG l V y R F pc lv (xj d :: xj a :: st) S I J P b := by
  obtain ⟨hd, rfl⟩ := hd
  intro p e s m args below meth c Qw B hF H ls locs cells slots h1 h2 h3 h4 h5 h6
  exact lv_lxor B.1 B.2.1 hd  (k p e s m args below meth c Qw B hF H ls locs cells slots h1 h2 h3 h4 h5 h6)
theorem xG_lshl {a : Int64} {d : Int32} (hd : xd y pc 1 pc' (.lshl)) (k : xG l V y R F pc' lv (xj (a <<< (d.toInt64 &&& 63)) :: st) S I J P b) : xG l V y R F pc lv (xi d :: xj a :: st) S I J P b := by
  obtain ⟨hd, rfl⟩ := hd
  intro p e s m args below meth c Qw B hF H ls locs cells slots h1 h2 h3 h4 h5 h6
  exact lv_lshl B.1 B.2.1 hd rfl (k p e s m args below meth c Qw B hF H ls locs cells slots h1 h2 h3 h4 h5 h6)
theorem xG_lshr {a : Int64} {d : Int32} (hd : xd y pc 1 pc' (.lshr)) (k : xG l V y R F pc' lv (xj (a >>> (d.toInt64 &&& 63)) :: st) S I J P b) : xG l V y R F pc lv (xi d :: xj a :: st) S I J P b := by
  obtain ⟨hd, rfl⟩ := hd
  intro p e s m args below meth c Qw B hF H ls locs cells slots h1 h2 h3 h4 h5 h6
  exact lv_lshr B.1 B.2.1 hd rfl (k p e s m args below meth c Qw B hF H ls locs cells slots h1 h2 h3 h4 h5 h6)
theorem xG_lushr {a : Int64} {d : Int32} (hd : xd y pc 1 pc' (.lushr)) (k : xG l V y R F pc' lv (xj ((a.toUInt64 >>> (d.toInt64.toUInt64 &&& Int64.toUInt64 63)).toInt64) :: st) S I J P b) : xG l V y R F pc lv (xi d :: xj a :: st) S I J P b := by
  obtain ⟨hd, rfl⟩ := hd
  intro p e s m args below meth c Qw B hF H ls locs cells slots h1 h2 h3 h4 h5 h6
  exact lv_lushr B.1 B.2.1 hd rfl (k p e s m args below meth c Qw B hF H ls locs cells slots h1 h2 h3 h4 h5 h6)
theorem xG_i2l {a : Int32} (hd : xd y pc 1 pc' (.i2l)) (k : xG l V y R F pc' lv (xj a.toInt64 :: st) S I J P b) : xG l V y R F pc lv (xi a :: st) S I J P b := by
  obtain ⟨hd, rfl⟩ := hd
  intro p e s m args below meth c Qw B hF H ls locs cells slots h1 h2 h3 h4 h5 h6
  exact lv_i2l B.1 B.2.1 hd rfl (k p e s m args below meth c Qw B hF H ls locs cells slots h1 h2 h3 h4 h5 h6)
theorem xG_l2i {a : Int64} (hd : xd y pc 1 pc' (.l2i)) (k : xG l V y R F pc' lv (xi a.toInt32 :: st) S I J P b) : xG l V y R F pc lv (xj a :: st) S I J P b := by
  obtain ⟨hd, rfl⟩ := hd
  intro p e s m args below meth c Qw B hF H ls locs cells slots h1 h2 h3 h4 h5 h6
  exact lv_l2i B.1 B.2.1 hd rfl (k p e s m args below meth c Qw B hF H ls locs cells slots h1 h2 h3 h4 h5 h6)
theorem xG_i2b {a : Int32} (hd : xd y pc 1 pc' (.i2b)) (k : xG l V y R F pc' lv (xi a.toInt8.toInt32 :: st) S I J P b) : xG l V y R F pc lv (xi a :: st) S I J P b := by
  obtain ⟨hd, rfl⟩ := hd
  intro p e s m args below meth c Qw B hF H ls locs cells slots h1 h2 h3 h4 h5 h6
  exact lv_i2b B.1 B.2.1 hd rfl (k p e s m args below meth c Qw B hF H ls locs cells slots h1 h2 h3 h4 h5 h6)
theorem xG_i2c {a : Int32} (hd : xd y pc 1 pc' (.i2c)) (k : xG l V y R F pc' lv (xi (a.toUInt32 % 65536).toInt32 :: st) S I J P b) : xG l V y R F pc lv (xi a :: st) S I J P b := by
  obtain ⟨hd, rfl⟩ := hd
  intro p e s m args below meth c Qw B hF H ls locs cells slots h1 h2 h3 h4 h5 h6
  exact lv_i2c B.1 B.2.1 hd rfl (k p e s m args below meth c Qw B hF H ls locs cells slots h1 h2 h3 h4 h5 h6)
theorem xG_lcmp {a d : Int64} (hd : xd y pc 1 pc' (.lcmp)) (k : xG l V y R F pc' lv (xi (lg_cmp a d) :: st) S I J P b) : xG l V y R F pc lv (xj d :: xj a :: st) S I J P b := by
  obtain ⟨hd, rfl⟩ := hd
  intro p e s m args below meth c Qw B hF H ls locs cells slots h1 h2 h3 h4 h5 h6
  exact W.lcmp B.1 B.2.1 hd  (k p e s m args below meth c Qw B hF H ls locs cells slots h1 h2 h3 h4 h5 h6)
theorem xG_dup {u : xX} (hd : xd y pc 1 pc' (.dup)) (cu : xc2 u = false) (k : xG l V y R F pc' lv (u :: u :: st) S I J P b) : xG l V y R F pc lv (u :: st) S I J P b := by
  obtain ⟨hd, rfl⟩ := hd
  intro p e s m args below meth c Qw B hF H ls locs cells slots h1 h2 h3 h4 h5 h6
  exact lv_dup B.1 B.2.1 hd (xv_c1 V cu) (k p e s m args below meth c Qw B hF H ls locs cells slots h1 h2 h3 h4 h5 h6)
theorem xG_pop {u : xX} (hd : xd y pc 1 pc' (.pop)) (cu : xc2 u = false) (k : xG l V y R F pc' lv (st) S I J P b) : xG l V y R F pc lv (u :: st) S I J P b := by
  obtain ⟨hd, rfl⟩ := hd
  intro p e s m args below meth c Qw B hF H ls locs cells slots h1 h2 h3 h4 h5 h6
  exact lv_pop B.1 B.2.1 hd (xv_c1 V cu) (k p e s m args below meth c Qw B hF H ls locs cells slots h1 h2 h3 h4 h5 h6)
theorem xG_dup_x1 {u w : xX} (hd : xd y pc 1 pc' (.dup_x1)) (cu : xc2 u = false) (cw : xc2 w = false) (k : xG l V y R F pc' lv (u :: w :: u :: st) S I J P b) : xG l V y R F pc lv (u :: w :: st) S I J P b := by
  obtain ⟨hd, rfl⟩ := hd
  intro p e s m args below meth c Qw B hF H ls locs cells slots h1 h2 h3 h4 h5 h6
  exact lv_dup_x1 B.1 B.2.1 hd (xv_c1 V cu) (xv_c1 V cw) (k p e s m args below meth c Qw B hF H ls locs cells slots h1 h2 h3 h4 h5 h6)
theorem xG_dup_x2 {u w z : xX} (hd : xd y pc 1 pc' (.dup_x2)) (cu : xc2 u = false) (cw : xc2 w = false) (cz : xc2 z = false) (k : xG l V y R F pc' lv (u :: w :: z :: u :: st) S I J P b) : xG l V y R F pc lv (u :: w :: z :: st) S I J P b := by
  obtain ⟨hd, rfl⟩ := hd
  intro p e s m args below meth c Qw B hF H ls locs cells slots h1 h2 h3 h4 h5 h6
  exact lv_dup_x2 B.1 B.2.1 hd (xv_c1 V cu) (xv_c1 V cw) (xv_c1 V cz) (k p e s m args below meth c Qw B hF H ls locs cells slots h1 h2 h3 h4 h5 h6)
theorem xG_dup2 {u w : xX} (hd : xd y pc 1 pc' (.dup2)) (cu : xc2 u = false) (cw : xc2 w = false) (k : xG l V y R F pc' lv (u :: w :: u :: w :: st) S I J P b) : xG l V y R F pc lv (u :: w :: st) S I J P b := by
  obtain ⟨hd, rfl⟩ := hd
  intro p e s m args below meth c Qw B hF H ls locs cells slots h1 h2 h3 h4 h5 h6
  exact lv_dup2_11 B.1 B.2.1 hd (xv_c1 V cu) (xv_c1 V cw) (k p e s m args below meth c Qw B hF H ls locs cells slots h1 h2 h3 h4 h5 h6)
theorem xG_dup2j {u : xX} (hd : xd y pc 1 pc' (.dup2)) (cu : xc2 u = true) (k : xG l V y R F pc' lv (u :: u :: st) S I J P b) : xG l V y R F pc lv (u :: st) S I J P b := by
  obtain ⟨hd, rfl⟩ := hd
  intro p e s m args below meth c Qw B hF H ls locs cells slots h1 h2 h3 h4 h5 h6
  exact lv_dup2_2 B.1 B.2.1 hd (xv_c2 V cu) (k p e s m args below meth c Qw B hF H ls locs cells slots h1 h2 h3 h4 h5 h6)
theorem xG_pop2j {u : xX} (hd : xd y pc 1 pc' (.pop2)) (cu : xc2 u = true) (k : xG l V y R F pc' lv (st) S I J P b) : xG l V y R F pc lv (u :: st) S I J P b := by
  obtain ⟨hd, rfl⟩ := hd
  intro p e s m args below meth c Qw B hF H ls locs cells slots h1 h2 h3 h4 h5 h6
  exact lv_pop2_2 B.1 B.2.1 hd (xv_c2 V cu) (k p e s m args below meth c Qw B hF H ls locs cells slots h1 h2 h3 h4 h5 h6)
theorem xG_if_eq {a : Int32} {off : Int} {tgt : Nat} (hd : xd y pc 3 pc' (.ifCond .eq off)) (ht : (pc : Int) + off = (tgt : Int)) (kt : a = 0 → xG l V y R F tgt lv st S I J P b) (kf : ¬ a = 0 → xG l V y R F pc' lv st S I J P b) : xG l V y R F pc lv (xi a :: st) S I J P b := by
  obtain ⟨hd, rfl⟩ := hd
  intro p e s m args below meth c Qw B hF H ls locs cells slots h1 h2 h3 h4 h5 h6
  exact lv_if_eq B.1 B.2.1 hd ht (fun hc => kt hc p e s m args below meth c Qw B hF H ls locs cells slots h1 h2 h3 h4 h5 h6) (fun hc => kf hc p e s m args below meth c Qw B hF H ls locs cells slots h1 h2 h3 h4 h5 h6)
theorem xG_icmp_eq {a d : Int32} {off : Int} {tgt : Nat} (hd : xd y pc 3 pc' (.if_icmp .eq off)) (ht : (pc : Int) + off = (tgt : Int)) (kt : a = d → xG l V y R F tgt lv st S I J P b) (kf : ¬ a = d → xG l V y R F pc' lv st S I J P b) : xG l V y R F pc lv (xi d :: xi a :: st) S I J P b := by
  obtain ⟨hd, rfl⟩ := hd
  intro p e s m args below meth c Qw B hF H ls locs cells slots h1 h2 h3 h4 h5 h6
  exact lv_icmp_eq B.1 B.2.1 hd ht (fun hc => kt hc p e s m args below meth c Qw B hF H ls locs cells slots h1 h2 h3 h4 h5 h6) (fun hc => kf hc p e s m args below meth c Qw B hF H ls locs cells slots h1 h2 h3 h4 h5 h6)
theorem xG_if_ne {a : Int32} {off : Int} {tgt : Nat} (hd : xd y pc 3 pc' (.ifCond .ne off)) (ht : (pc : Int) + off = (tgt : Int)) (kt : ¬ a = 0 → xG l V y R F tgt lv st S I J P b) (kf : a = 0 → xG l V y R F pc' lv st S I J P b) : xG l V y R F pc lv (xi a :: st) S I J P b := by
  obtain ⟨hd, rfl⟩ := hd
  intro p e s m args below meth c Qw B hF H ls locs cells slots h1 h2 h3 h4 h5 h6
  exact lv_if_ne B.1 B.2.1 hd ht (fun hc => kt hc p e s m args below meth c Qw B hF H ls locs cells slots h1 h2 h3 h4 h5 h6) (fun hc => kf hc p e s m args below meth c Qw B hF H ls locs cells slots h1 h2 h3 h4 h5 h6)
theorem xG_icmp_ne {a d : Int32} {off : Int} {tgt : Nat} (hd : xd y pc 3 pc' (.if_icmp .ne off)) (ht : (pc : Int) + off = (tgt : Int)) (kt : ¬ a = d → xG l V y R F tgt lv st S I J P b) (kf : a = d → xG l V y R F pc' lv st S I J P b) : xG l V y R F pc lv (xi d :: xi a :: st) S I J P b := by
  obtain ⟨hd, rfl⟩ := hd
  intro p e s m args below meth c Qw B hF H ls locs cells slots h1 h2 h3 h4 h5 h6
  exact lv_icmp_ne B.1 B.2.1 hd ht (fun hc => kt hc p e s m args below meth c Qw B hF H ls locs cells slots h1 h2 h3 h4 h5 h6) (fun hc => kf hc p e s m args below meth c Qw B hF H ls locs cells slots h1 h2 h3 h4 h5 h6)
theorem xG_if_lt {a : Int32} {off : Int} {tgt : Nat} (hd : xd y pc 3 pc' (.ifCond .lt off)) (ht : (pc : Int) + off = (tgt : Int)) (kt : a < 0 → xG l V y R F tgt lv st S I J P b) (kf : ¬ a < 0 → xG l V y R F pc' lv st S I J P b) : xG l V y R F pc lv (xi a :: st) S I J P b := by
  obtain ⟨hd, rfl⟩ := hd
  intro p e s m args below meth c Qw B hF H ls locs cells slots h1 h2 h3 h4 h5 h6
  exact lv_if_lt B.1 B.2.1 hd ht (fun hc => kt hc p e s m args below meth c Qw B hF H ls locs cells slots h1 h2 h3 h4 h5 h6) (fun hc => kf hc p e s m args below meth c Qw B hF H ls locs cells slots h1 h2 h3 h4 h5 h6)
theorem xG_icmp_lt {a d : Int32} {off : Int} {tgt : Nat} (hd : xd y pc 3 pc' (.if_icmp .lt off)) (ht : (pc : Int) + off = (tgt : Int)) (kt : a < d → xG l V y R F tgt lv st S I J P b) (kf : ¬ a < d → xG l V y R F pc' lv st S I J P b) : xG l V y R F pc lv (xi d :: xi a :: st) S I J P b := by
  obtain ⟨hd, rfl⟩ := hd
  intro p e s m args below meth c Qw B hF H ls locs cells slots h1 h2 h3 h4 h5 h6
  exact lv_icmp_lt B.1 B.2.1 hd ht (fun hc => kt hc p e s m args below meth c Qw B hF H ls locs cells slots h1 h2 h3 h4 h5 h6) (fun hc => kf hc p e s m args below meth c Qw B hF H ls locs cells slots h1 h2 h3 h4 h5 h6)
theorem xG_if_ge {a : Int32} {off : Int} {tgt : Nat} (hd : xd y pc 3 pc' (.ifCond .ge off)) (ht : (pc : Int) + off = (tgt : Int)) (kt : 0 ≤ a → xG l V y R F tgt lv st S I J P b) (kf : ¬ 0 ≤ a → xG l V y R F pc' lv st S I J P b) : xG l V y R F pc lv (xi a :: st) S I J P b := by
  obtain ⟨hd, rfl⟩ := hd
  intro p e s m args below meth c Qw B hF H ls locs cells slots h1 h2 h3 h4 h5 h6
  exact lv_if_ge B.1 B.2.1 hd ht (fun hc => kt hc p e s m args below meth c Qw B hF H ls locs cells slots h1 h2 h3 h4 h5 h6) (fun hc => kf hc p e s m args below meth c Qw B hF H ls locs cells slots h1 h2 h3 h4 h5 h6)
theorem xG_icmp_ge {a d : Int32} {off : Int} {tgt : Nat} (hd : xd y pc 3 pc' (.if_icmp .ge off)) (ht : (pc : Int) + off = (tgt : Int)) (kt : d ≤ a → xG l V y R F tgt lv st S I J P b) (kf : ¬ d ≤ a → xG l V y R F pc' lv st S I J P b) : xG l V y R F pc lv (xi d :: xi a :: st) S I J P b := by
  obtain ⟨hd, rfl⟩ := hd
  intro p e s m args below meth c Qw B hF H ls locs cells slots h1 h2 h3 h4 h5 h6
  exact lv_icmp_ge B.1 B.2.1 hd ht (fun hc => kt hc p e s m args below meth c Qw B hF H ls locs cells slots h1 h2 h3 h4 h5 h6) (fun hc => kf hc p e s m args below meth c Qw B hF H ls locs cells slots h1 h2 h3 h4 h5 h6)
theorem xG_if_gt {a : Int32} {off : Int} {tgt : Nat} (hd : xd y pc 3 pc' (.ifCond .gt off)) (ht : (pc : Int) + off = (tgt : Int)) (kt : 0 < a → xG l V y R F tgt lv st S I J P b) (kf : ¬ 0 < a → xG l V y R F pc' lv st S I J P b) : xG l V y R F pc lv (xi a :: st) S I J P b := by
  obtain ⟨hd, rfl⟩ := hd
  intro p e s m args below meth c Qw B hF H ls locs cells slots h1 h2 h3 h4 h5 h6
  exact lv_if_gt B.1 B.2.1 hd ht (fun hc => kt hc p e s m args below meth c Qw B hF H ls locs cells slots h1 h2 h3 h4 h5 h6) (fun hc => kf hc p e s m args below meth c Qw B hF H ls locs cells slots h1 h2 h3 h4 h5 h6)
theorem xG_icmp_gt {a d : Int32} {off : Int} {tgt : Nat} (hd : xd y pc 3 pc' (.if_icmp .gt off)) (ht : (pc : Int) + off = (tgt : Int)) (kt : d < a → xG l V y R F tgt lv st S I J P b) (kf : ¬ d < a → xG l V y R F pc' lv st S I J P b) : xG l V y R F pc lv (xi d :: xi a :: st) S I J P b := by
  obtain ⟨hd, rfl⟩ := hd
  intro p e s m args below meth c Qw B hF H ls locs cells slots h1 h2 h3 h4 h5 h6
  exact lv_icmp_gt B.1 B.2.1 hd ht (fun hc => kt hc p e s m args below meth c Qw B hF H ls locs cells slots h1 h2 h3 h4 h5 h6) (fun hc => kf hc p e s m args below meth c Qw B hF H ls locs cells slots h1 h2 h3 h4 h5 h6)
theorem xG_if_le {a : Int32} {off : Int} {tgt : Nat} (hd : xd y pc 3 pc' (.ifCond .le off)) (ht : (pc : Int) + off = (tgt : Int)) (kt : a ≤ 0 → xG l V y R F tgt lv st S I J P b) (kf : ¬ a ≤ 0 → xG l V y R F pc' lv st S I J P b) : xG l V y R F pc lv (xi a :: st) S I J P b := by
  obtain ⟨hd, rfl⟩ := hd
  intro p e s m args below meth c Qw B hF H ls locs cells slots h1 h2 h3 h4 h5 h6
  exact lv_if_le B.1 B.2.1 hd ht (fun hc => kt hc p e s m args below meth c Qw B hF H ls locs cells slots h1 h2 h3 h4 h5 h6) (fun hc => kf hc p e s m args below meth c Qw B hF H ls locs cells slots h1 h2 h3 h4 h5 h6)
theorem xG_icmp_le {a d : Int32} {off : Int} {tgt : Nat} (hd : xd y pc 3 pc' (.if_icmp .le off)) (ht : (pc : Int) + off = (tgt : Int)) (kt : a ≤ d → xG l V y R F tgt lv st S I J P b) (kf : ¬ a ≤ d → xG l V y R F pc' lv st S I J P b) : xG l V y R F pc lv (xi d :: xi a :: st) S I J P b := by
  obtain ⟨hd, rfl⟩ := hd
  intro p e s m args below meth c Qw B hF H ls locs cells slots h1 h2 h3 h4 h5 h6
  exact lv_icmp_le B.1 B.2.1 hd ht (fun hc => kt hc p e s m args below meth c Qw B hF H ls locs cells slots h1 h2 h3 h4 h5 h6) (fun hc => kf hc p e s m args below meth c Qw B hF H ls locs cells slots h1 h2 h3 h4 h5 h6)
theorem xG_acmp_eq {r q : Option Nat} {off : Int} {tgt : Nat} (hd : xd y pc 3 pc' (.if_acmp .eq off)) (ht : (pc : Int) + off = (tgt : Int)) (kt : r = q → xG l V y R F tgt lv st S I J P b) (kf : ¬ r = q → xG l V y R F pc' lv st S I J P b) : xG l V y R F pc lv (xq q :: xq r :: st) S I J P b := by
  obtain ⟨hd, rfl⟩ := hd
  intro p e s m args below meth c Qw B hF H ls locs cells slots h1 h2 h3 h4 h5 h6
  exact lv_acmp_eq B.1 B.2.1 hd ht (fun hc => kt (xq_inj hc) p e s m args below meth c Qw B hF H ls locs cells slots h1 h2 h3 h4 h5 h6) (fun hc => kf (fun hz => hc (by rw [hz])) p e s m args below meth c Qw B hF H ls locs cells slots h1 h2 h3 h4 h5 h6)
theorem xG_acmp_ne {r q : Option Nat} {off : Int} {tgt : Nat} (hd : xd y pc 3 pc' (.if_acmp .ne off)) (ht : (pc : Int) + off = (tgt : Int)) (kt : ¬ r = q → xG l V y R F tgt lv st S I J P b) (kf : r = q → xG l V y R F pc' lv st S I J P b) : xG l V y R F pc lv (xq q :: xq r :: st) S I J P b := by
  obtain ⟨hd, rfl⟩ := hd
  intro p e s m args below meth c Qw B hF H ls locs cells slots h1 h2 h3 h4 h5 h6
  exact lv_acmp_ne B.1 B.2.1 hd ht (fun hc => kt (fun hz => hc (by rw [hz])) p e s m args below meth c Qw B hF H ls locs cells slots h1 h2 h3 h4 h5 h6) (fun hc => kf (xq_inj hc) p e s m args below meth c Qw B hF H ls locs cells slots h1 h2 h3 h4 h5 h6)
theorem xG_ifnull {r : Option Nat} {off : Int} {tgt : Nat} (hd : xd y pc 3 pc' (.ifnull off)) (ht : (pc : Int) + off = (tgt : Int)) (kt : r = none → xG l V y R F tgt lv st S I J P b) (kf : ¬ r = none → xG l V y R F pc' lv st S I J P b) : xG l V y R F pc lv (xq r :: st) S I J P b := by
  obtain ⟨hd, rfl⟩ := hd
  intro p e s m args below meth c Qw B hF H ls locs cells slots h1 h2 h3 h4 h5 h6
  cases r with
  | none => exact lv_ifnullN B.1 B.2.1 hd ht (kt rfl p e s m args below meth c Qw B hF H ls locs cells slots h1 h2 h3 h4 h5 h6)
  | some x => exact lv_ifnull B.1 B.2.1 hd (kf (fun z => by cases z) p e s m args below meth c Qw B hF H ls locs cells slots h1 h2 h3 h4 h5 h6)
theorem xG_ifnonnull {r : Option Nat} {off : Int} {tgt : Nat} (hd : xd y pc 3 pc' (.ifnonnull off)) (ht : (pc : Int) + off = (tgt : Int)) (kt : ¬ r = none → xG l V y R F tgt lv st S I J P b) (kf : r = none → xG l V y R F pc' lv st S I J P b) : xG l V y R F pc lv (xq r :: st) S I J P b := by
  obtain ⟨hd, rfl⟩ := hd
  intro p e s m args below meth c Qw B hF H ls locs cells slots h1 h2 h3 h4 h5 h6
  cases r with
  | none => exact lv_ifnonnullN B.1 B.2.1 hd (kf rfl p e s m args below meth c Qw B hF H ls locs cells slots h1 h2 h3 h4 h5 h6)
  | some x => exact lv_ifnonnull B.1 B.2.1 hd ht (kt (fun z => by cases z) p e s m args below meth c Qw B hF H ls locs cells slots h1 h2 h3 h4 h5 h6)
theorem xG_goto {off : Int} {tgt : Nat} (hd : xd y pc 3 pc' (.goto off)) (ht : (pc : Int) + off = (tgt : Int)) (k : xG l V y R F tgt lv st S I J P b) : xG l V y R F pc lv st S I J P b := by
  obtain ⟨hd, -⟩ := hd
  intro p e s m args below meth c Qw B hF H ls locs cells slots h1 h2 h3 h4 h5 h6
  exact lv_goto B.1 B.2.1 hd ht (k p e s m args below meth c Qw B hF H ls locs cells slots h1 h2 h3 h4 h5 h6)
theorem xG_lookup {dflt : Int} {ps : Array (Int × Int)} {n : Nat} {a : Int32} {off : Int} {tgt : Nat} (hd : xd y pc n pc' (.lookupswitch dflt ps)) (hp : (ps.toList.zip (ps.toList.drop 1)).all (fun (a, next) => a.1 < next.1) = true) (ho : Op.lookupswitch.offset ps.toList dflt a.toInt = off) (ht : (pc : Int) + off = (tgt : Int)) (k : xG l V y R F tgt lv st S I J P b) : xG l V y R F pc lv (xi a :: st) S I J P b := by
  obtain ⟨hd, -⟩ := hd
  intro p e s m args below meth c Qw B hF H ls locs cells slots h1 h2 h3 h4 h5 h6
  exact lv_lookup B.1 B.2.1 hd hp ho ht (k p e s m args below meth c Qw B hF H ls locs cells slots h1 h2 h3 h4 h5 h6)
theorem xG_tableIn {dflt lo hi : Int} {offs : Array Int} {n : Nat} {a : Int32} {off : Int} {tgt : Nat} (hd : xd y pc n pc' (.tableswitch dflt lo hi offs)) (g1 : ¬ a.toInt < lo) (g2 : ¬ hi < a.toInt) (ho : offs[(a.toInt - lo).toNat]? = some off) (ht : (pc : Int) + off = (tgt : Int)) (k : xG l V y R F tgt lv st S I J P b) : xG l V y R F pc lv (xi a :: st) S I J P b := by
  obtain ⟨hd, -⟩ := hd
  intro p e s m args below meth c Qw B hF H ls locs cells slots h1 h2 h3 h4 h5 h6
  exact lv_tableIn B.1 B.2.1 hd g1 g2 ho ht (k p e s m args below meth c Qw B hF H ls locs cells slots h1 h2 h3 h4 h5 h6)
theorem xG_tableOut {dflt lo hi : Int} {offs : Array Int} {n : Nat} {a : Int32} {tgt : Nat} (hd : xd y pc n pc' (.tableswitch dflt lo hi offs)) (g1 : a.toInt < lo ∨ hi < a.toInt) (ht : (pc : Int) + dflt = (tgt : Int)) (k : xG l V y R F tgt lv st S I J P b) : xG l V y R F pc lv (xi a :: st) S I J P b := by
  obtain ⟨hd, -⟩ := hd
  intro p e s m args below meth c Qw B hF H ls locs cells slots h1 h2 h3 h4 h5 h6
  exact lv_tableOut B.1 B.2.1 hd g1 ht (k p e s m args below meth c Qw B hF H ls locs cells slots h1 h2 h3 h4 h5 h6)
end XR

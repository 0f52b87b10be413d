/-! fields, arrays, new cells -/
def xkd (ty : FieldType) : Nat := match ty with
  | .long => 1
  | .object _ => 2
  | .array _ => 2
  | _ => 0
/-- a field reference of a method's owner: the owner's pool number, the number of the object's kind, the field's place, its sort -/
def xFd (own : String) (idx ci k sort : Nat) (fin : Bool) : Prop := ∃ (C : String) (T : u_T) (N : Nat), xCl[ci]? = some (C, T, N) ∧ k < N ∧ Jvm.Cond.fieldLink own idx (T k).1 (T k).2.1 (T k).2.2.1 ∈ xTB ∧ (T k).2.2.2 = fin ∧ xkd (xTy ci k) = sort ∧ (T k).1 = C
section XH
variable {l : Launch} {V : xV} {y : xY} {R : Room} {F : xFin} {pc pc' : Nat} {lv lv' : List (Nat × xX)} {st : List xX} {S : xSh} {I : xIt} {J : xJt} {P : xPt} {b : Nat × Nat}
theorem xfv_i {a k : Nat} {ty : FieldType} (h : xkd ty = 0) : xfv V I J P a k ty = .int (I a k) := by
  cases ty <;> first | rfl | (simp [xkd] at h)
theorem xfv_j {a k : Nat} {ty : FieldType} (h : xkd ty = 1) : xfv V I J P a k ty = .long (J a k) := by
  cases ty <;> first | rfl | (simp [xkd] at h)
theorem xfv_q {a k : Nat} {ty : FieldType} (h : xkd ty = 2) : xfv V I J P a k ty = va_rf ((P a k).map (V.1 + ·)) := by
  cases ty <;> first | rfl | (simp [xkd] at h)
theorem xNf_of {ci : Nat} {C : String} {T : u_T} {N : Nat} (h : xCl[ci]? = some (C, T, N)) : xNf ci = N := by
  simp [xNf, h]
theorem x_get {p : Program} {e : Env} {s : State} {m : MethodId} {args : Array Value} {below : List Frame} {meth : Method} {c : Code} {Qw : State → Prop} {H : Heap} {ls : Array Slot} {locs : List Loc} {cells slots : Nat} {rest : List Value} {idx ci k sort a n : Nat} {fin : Bool} {v : Value}
    (B : xB V y p s m args meth c) (hP : va_P V.2.1 xCl (xws V S I J P) H) (hf : xFd y.1.cls idx ci k sort fin) (ha : S[a]? = some (ci, n)) (hd : decode y.2.1 pc = .ok (.getfield idx, 3)) (hv : xfv V I J P a k (xTy ci k) = v)
    (kk : W p l e R s m args below meth c H locs cells slots Qw (F0 m (pc + 3) ls (v :: rest))) : W p l e R s m args below meth c H locs cells slots Qw (F0 m pc ls (.ref (V.1 + a) :: rest)) := by
  obtain ⟨C, T, N, hc, hk, hl, -, -, -⟩ := hf
  have hok := xCl_ok hc
  exact va_get B.1 B.2.1 B.2.2.2.1 hok.2.2.2.1 B.2.2.2.2.1 B.2.2.2.2.2.2.1 hP a (xws_obj ha hok.1) hc k hk (B.2.2.2.1 _ hl) (fun _ h => h) (by rw [xfs_get (by rw [xNf_of hc]; exact hk), hv]) hd kk
theorem xG_geti {idx ci k a n : Nat} {fin : Bool} {r : Option Nat} (hd : xd y pc 3 pc' (.getfield idx)) (hf : xFd y.1.cls idx ci k 0 fin) (hr : r = some a) (ha : S[a]? = some (ci, n)) (kk : xG l V y R F pc' lv (xi (I a k) :: st) S I J P b) : xG l V y R F pc lv (xq r :: st) S I J P b := by
  obtain ⟨hd, rfl⟩ := hd
  subst hr
  intro p e s m args below meth c Qw B hF H ls locs cells slots h1 h2 h3 h4 h5 h6
  have hf' := hf
  obtain ⟨C, T, N, hc, hk, hl, -, hs, -⟩ := hf'
  exact x_get B h2 hf ha hd (xfv_i hs) (kk p e s m args below meth c Qw B hF H ls locs cells slots h1 h2 h3 h4 h5 h6)
theorem xG_getj {idx ci k a n : Nat} {fin : Bool} {r : Option Nat} (hd : xd y pc 3 pc' (.getfield idx)) (hf : xFd y.1.cls idx ci k 1 fin) (hr : r = some a) (ha : S[a]? = some (ci, n)) (kk : xG l V y R F pc' lv (xj (J a k) :: st) S I J P b) : xG l V y R F pc lv (xq r :: st) S I J P b := by
  obtain ⟨hd, rfl⟩ := hd
  subst hr
  intro p e s m args below meth c Qw B hF H ls locs cells slots h1 h2 h3 h4 h5 h6
  have hf' := hf
  obtain ⟨C, T, N, hc, hk, hl, -, hs, -⟩ := hf'
  exact x_get B h2 hf ha hd (xfv_j hs) (kk p e s m args below meth c Qw B hF H ls locs cells slots h1 h2 h3 h4 h5 h6)
theorem xG_getq {idx ci k a n : Nat} {fin : Bool} {r : Option Nat} (hd : xd y pc 3 pc' (.getfield idx)) (hf : xFd y.1.cls idx ci k 2 fin) (hr : r = some a) (ha : S[a]? = some (ci, n)) (kk : xG l V y R F pc' lv (xq (P a k) :: st) S I J P b) : xG l V y R F pc lv (xq r :: st) S I J P b := by
  obtain ⟨hd, rfl⟩ := hd
  subst hr
  intro p e s m args below meth c Qw B hF H ls locs cells slots h1 h2 h3 h4 h5 h6
  have hf' := hf
  obtain ⟨C, T, N, hc, hk, hl, -, hs, -⟩ := hf'
  exact x_get B h2 hf ha hd (xfv_q hs) (kk p e s m args below meth c Qw B hF H ls locs cells slots h1 h2 h3 h4 h5 h6)
/-- a field is written; the heap keeps its size -/
theorem x_put {p : Program} {e : Env} {s : State} {m : MethodId} {args : Array Value} {below : List Frame} {meth : Method} {c : Code} {Qw : State → Prop} {H : Heap} {ls : Array Slot} {locs : List Loc} {cells slots : Nat} {rest : List Value} {idx ci k sort a n : Nat} {fin : Bool} {v : Value} {I' : xIt} {J' : xJt} {P' : xPt}
    (B : xB V y p s m args meth c) (hP : va_P V.2.1 xCl (xws V S I J P) H) (hS0 : va_S (xA V) s.heap H locs) (hf : xFd y.1.cls idx ci k sort fin) (hfin : fin = false ∨ (y.1.name = "<init>" ∧ (xCl[ci]?).map (fun q => q.1) = some y.1.cls)) (ha : S[a]? = some (ci, n)) (hn : narrow (xTy ci k) v = v) (hfit : fits (xTy ci k) v = true) (hd : decode y.2.1 pc = .ok (.putfield idx, 3))
    (hv : xfv V I' J' P' a k (xTy ci k) = v) (ho : ∀ j, j ≠ k → xfv V I' J' P' a j (xTy ci j) = xfv V I J P a j (xTy ci j)) (hoc : ∀ (i : Nat) (q : Nat × Nat), i ≠ a → xcell V I' J' P' i q = xcell V I J P i q)
    (kk : ∀ (H1 : Heap) (locs1 : List Loc), va_P V.2.1 xCl (xws V S I' J' P') H1 → H1.size = H.size → va_S (xA V) s.heap H1 locs1 → W p l e R s m args below meth c H1 locs1 cells slots Qw (F0 m (pc + 3) ls rest)) : W p l e R s m args below meth c H locs cells slots Qw (F0 m pc ls (v :: .ref (V.1 + a) :: rest)) := by
  obtain ⟨C, T, N, hc, hk, hl, hfn, -, hdc⟩ := hf
  obtain ⟨hci, hty, hnm, hin, -⟩ := xCl_ok hc
  have he := xws_obj (V := V) (I := I) (J := J) (P := P) ha hci
  have hD := xws_D (V := V) (S := S) (I := I) (J := J) (P := P)
  have hap := va_apart (own := y.1.cls) B.2.2.2.1 hin (xTy ci) hty hnm B.2.2.2.2.2.2.1 hc
  have hset : (xws V S I J P).set a (V.1 + a, .inr (ci, (xfs V I J P a ci).set k v)) = xws V S I' J' P' := by
    rw [xfs_set (by rw [xNf_of hc]; exact hk) hv ho]
    have h := xws_set (V := V) (I := I) (J := J) (P := P) (I' := I') (J' := J') (P' := P') ha hoc
    rw [xcell, if_pos hci] at h
    exact h
  have hlen : k < (xfs V I J P a ci).length := by rw [xfs_len, xNf_of hc]; exact hk
  obtain ⟨r, h1, cell, q1, q2, q3, q4⟩ := hP a _ he
  have hr : r = (C, T, N) := Option.some.inj (h1.symm.trans hc)
  subst hr
  obtain ⟨hS, hfc, kC, hkC, hkind⟩ := B.2.2.2.2.2.2.1.1 ci _ hc
  obtain ⟨cf, kf, fi, f, hi, hsl⟩ := hS k hk
  have hlay := B.2.2.2.1 _ (hin _ (u_in_lay hk))
  have hst := (u_facts hfc hkC (u_lays B.2.2.2.1 hin hk) hi).1
  have fin1 : ∀ (H' : Heap) (lc : List Loc), H'[V.1 + a]? = some (cell.setSlot f.slot v) → H'.size = H.size → (∀ q : Nat, q ≠ V.1 + a → H'[q]? = H[q]?) → lc = locs ++ [⟨V.1 + a, f.slot⟩] → W p l e R s m args below meth c H' lc cells slots Qw (F0 m (pc + 3) ls rest) := by
    intro H' lc e1 e2 e3 elc
    rw [hsl] at e1
    subst elc
    refine kk H' _ ?_ e2 (hS0.put e2 e3 (hD.2 a _ he))
    rw [← hset]
    exact hP.set hD he ⟨_, hc, t_OB.to (V := updV (vp_V (xfs V I J P a ci)) k v) ⟨_, e1, q2, q3, t_set q4 hap hk v⟩ (fun j _ => vp_updV_set hlen v j)⟩ e3
  by_cases hF : (T k).2.2.2 = true
  · unfold u_lay at hlay
    rw [if_pos hF] at hlay
    have hfin' := hfin
    rw [← hfn, hF] at hfin'
    obtain ⟨hnm2, hcl2⟩ : y.1.name = "<init>" ∧ (xCl[ci]?).map (fun q => q.1) = some y.1.cls := hfin'.resolve_left (fun z => by cases z)
    have hCy : C = y.1.cls := by rw [hc] at hcl2; exact Option.some.inj hcl2
    have hcf : m.cls = cf := by
      obtain ⟨_, _, c', _, _, _, -, -, hf', -, -, -, hown2, -⟩ := Cond.laysFinal_spec hlay
      have e1 : c' = cf := by have := hi.symm.trans hf'; simp at this; exact this.1.symm
      rw [hdc, hCy] at hown2
      rw [← e1]; exact Option.some.inj (B.2.2.2.2.1.symm.trans hown2)
    have h6 := u_fits hfc hkC hkind (Or.inr hlay) hi (hty k hk) hn hfit
    exact W.putFinK B.1 B.2.1 B.2.2.2.2.1 (B.2.2.2.1 _ hl) hi hst hcf (B.2.2.2.2.2.1.trans hnm2) (by rw [q2]; exact h6) q1 q3 (by rw [hsl]; exact k2_hasslot (q4 k hk)) rfl rfl hd (fun H' e1 e2 e3 => fin1 H' _ e1 e2 e3 rfl)
  · unfold u_lay at hlay
    rw [if_neg hF] at hlay
    have h6 := u_store hfc hkC hkind hlay hi (hty k hk) hn hfit
    exact W.putK B.1 B.2.1 (f := f) ⟨B.2.2.2.2.1, B.2.2.2.1 _ hl, ⟨_, _, _, hi⟩, hst⟩ (by rw [q2]; exact h6) q1 q3 (by rw [hsl]; exact k2_hasslot (q4 k hk)) rfl rfl hd (fun H' e1 e2 e3 => fin1 H' _ e1 e2 e3 rfl)
theorem xG_puti {idx ci k a n : Nat} {fin : Bool} {r : Option Nat} {x : Int32} (hd : xd y pc 3 pc' (.putfield idx)) (hf : xFd y.1.cls idx ci k 0 fin) (hfin : fin = false ∨ (y.1.name = "<init>" ∧ (xCl[ci]?).map (fun q => q.1) = some y.1.cls)) (hr : r = some a) (ha : S[a]? = some (ci, n)) (hn : narrow (xTy ci k) (.int x) = .int x) (hfit : fits (xTy ci k) (.int x) = true) (kk : xG l V y R F pc' lv st S (xu I a k x) J P b) : xG l V y R F pc lv (xi x :: xq r :: st) S I J P b := by
  obtain ⟨hd, rfl⟩ := hd
  subst hr
  intro p e s m args below meth c Qw B hF H ls locs cells slots h1 h2 h3 h4 h5 h6
  have hf' := hf
  obtain ⟨C, T, N, hc, hk, hl, -, hs, -⟩ := hf'
  refine x_put (I' := xu I a k x) (J' := J) (P' := P) B h2 h4 hf hfin ha hn hfit hd (by rw [xfv_i hs, xu_at]; rfl) (fun j hj => by unfold xfv; rw [xu_nk hj]) (fun i q hi => xcell_I hi q) (fun H1 locs1 g1 g2 g3 => kk p e s m args below meth c Qw B hF H1 ls locs1 cells slots h1 g1 (g2.trans h3) g3 h5 h6)
theorem xG_putj {idx ci k a n : Nat} {fin : Bool} {r : Option Nat} {x : Int64} (hd : xd y pc 3 pc' (.putfield idx)) (hf : xFd y.1.cls idx ci k 1 fin) (hfin : fin = false ∨ (y.1.name = "<init>" ∧ (xCl[ci]?).map (fun q => q.1) = some y.1.cls)) (hr : r = some a) (ha : S[a]? = some (ci, n)) (kk : xG l V y R F pc' lv st S I (xu J a k x) P b) : xG l V y R F pc lv (xj x :: xq r :: st) S I J P b := by
  obtain ⟨hd, rfl⟩ := hd
  subst hr
  intro p e s m args below meth c Qw B hF H ls locs cells slots h1 h2 h3 h4 h5 h6
  have hf' := hf
  obtain ⟨C, T, N, hc, hk, hl, -, hs, -⟩ := hf'
  have hty : xTy ci k = .long := by cases ht : xTy ci k <;> first | rfl | (rw [ht] at hs; simp [xkd] at hs)
  refine x_put (I' := I) (J' := xu J a k x) (P' := P) B h2 h4 hf hfin ha (by rw [hty]; rfl) (by rw [hty]; rfl) hd (by rw [xfv_j hs, xu_at]; rfl) (fun j hj => by unfold xfv; rw [xu_nk hj]) (fun i q hi => xcell_J hi q) (fun H1 locs1 g1 g2 g3 => kk p e s m args below meth c Qw B hF H1 ls locs1 cells slots h1 g1 (g2.trans h3) g3 h5 h6)
theorem xG_putq {idx ci k a n : Nat} {fin : Bool} {r x : Option Nat} (hd : xd y pc 3 pc' (.putfield idx)) (hf : xFd y.1.cls idx ci k 2 fin) (hfin : fin = false ∨ (y.1.name = "<init>" ∧ (xCl[ci]?).map (fun q => q.1) = some y.1.cls)) (hr : r = some a) (ha : S[a]? = some (ci, n)) (kk : xG l V y R F pc' lv st S I J (xu P a k x) b) : xG l V y R F pc lv (xq x :: xq r :: st) S I J P b := by
  obtain ⟨hd, rfl⟩ := hd
  subst hr
  intro p e s m args below meth c Qw B hF H ls locs cells slots h1 h2 h3 h4 h5 h6
  have hf' := hf
  obtain ⟨C, T, N, hc, hk, hl, -, hs, -⟩ := hf'
  refine x_put (v := xv V (xq x)) (I' := I) (J' := J) (P' := xu P a k x) B h2 h4 hf hfin ha (by cases ht : xTy ci k <;> cases x <;> first | rfl | (rw [ht] at hs; simp [xkd] at hs)) (by cases ht : xTy ci k <;> cases x <;> first | rfl | (rw [ht] at hs; simp [xkd] at hs)) hd (by rw [xfv_q hs, xu_at]; rfl) (fun j hj => by unfold xfv; rw [xu_nk hj]) (fun i q hi => xcell_P hi q) (fun H1 locs1 g1 g2 g3 => kk p e s m args below meth c Qw B hF H1 ls locs1 cells slots h1 g1 (g2.trans h3) g3 h5 h6)
-- statics and fixed arrays
theorem xG_gets {idx j : Nat} {q : String × String × String} (hd : xd y pc 3 pc' (.getstatic idx)) (hq : xSf[j]? = some q) (hl : Jvm.Cond.fieldLink y.1.cls idx q.1 q.2.1 q.2.2 ∈ xTB) (kk : xG l V y R F pc' lv (xt j :: st) S I J P b) : xG l V y R F pc lv st S I J P b := by
  obtain ⟨hd, rfl⟩ := hd
  intro p e s m args below meth c Qw B hF H ls locs cells slots h1 h2 h3 h4 h5 h6
  exact va_gets B.1 B.2.1 (B.2.2.2.2.2.2.2.1.1 j q hq) h4 B.2.2.2.2.1 (B.2.2.2.1 _ hl) (fun _ h => h) hd (kk p e s m args below meth c Qw B hF H ls locs cells slots h1 h2 h3 h4 h5 h6)
theorem xG_gets2 {idx j i : Nat} {q : String × String × String} {host : String} (hd : xd y pc 3 pc' (.getstatic idx)) (hq : xSf[j]? = some q) (hl : xNf1[i]? = some (y.1.cls, idx, q.1, q.2.1, q.2.2, host)) (kk : xG l V y R F pc' lv (xt j :: st) S I J P b) : xG l V y R F pc lv st S I J P b := by
  obtain ⟨hd, rfl⟩ := hd
  intro p e s m args below meth c Qw B hF H ls locs cells slots h1 h2 h3 h4 h5 h6
  exact va_getsN B.1 B.2.1 (B.2.2.2.2.2.2.2.1.1 j q hq) h4 B.2.2.2.2.1 (va_Nw.use rfl (B.2.2.2.2.2.2.2.2.2.1 i _ hl)) (fun _ h => h) hd (kk p e s m args below meth c Qw B hF H ls locs cells slots h1 h2 h3 h4 h5 h6)
theorem xG_ti {j : Nat} {i : Int32} (hd : xd y pc 1 pc' .iaload) (hj : j < 4) (ht : (xAr V j).1 = .int) (hi : vp_in i (xAr V j).2.1) (kk : xG l V y R F pc' lv (xi ((xAr V j).2.2 i.toNatClampNeg) :: st) S I J P b) : xG l V y R F pc lv (xi i :: xt j :: st) S I J P b := by
  obtain ⟨hd, rfl⟩ := hd
  intro p e s m args below meth c Qw B hF H ls locs cells slots h1 h2 h3 h4 h5 h6
  have hT := B.2.2.2.2.2.2.2.1.2 j hj
  rw [ht] at hT
  exact va_ti B.1 B.2.1 hT h4 hi rfl hd (kk p e s m args below meth c Qw B hF H ls locs cells slots h1 h2 h3 h4 h5 h6)
theorem xG_tc {j : Nat} {i : Int32} (hd : xd y pc 1 pc' .caload) (hj : j < 4) (ht : (xAr V j).1 = .char) (hi : vp_in i (xAr V j).2.1) (kk : xG l V y R F pc' lv (xi ((xAr V j).2.2 i.toNatClampNeg) :: st) S I J P b) : xG l V y R F pc lv (xi i :: xt j :: st) S I J P b := by
  obtain ⟨hd, rfl⟩ := hd
  intro p e s m args below meth c Qw B hF H ls locs cells slots h1 h2 h3 h4 h5 h6
  have hT := B.2.2.2.2.2.2.2.1.2 j hj
  rw [ht] at hT
  exact va_tc B.1 B.2.1 hT h4 hi rfl hd (kk p e s m args below meth c Qw B hF H ls locs cells slots h1 h2 h3 h4 h5 h6)
theorem xG_tlen {j : Nat} {v : Int32} (hd : xd y pc 1 pc' .arraylength) (hj : j < 4) (hv : Int32.ofNat (xAr V j).2.1 = v) (kk : xG l V y R F pc' lv (xi v :: st) S I J P b) : xG l V y R F pc lv (xt j :: st) S I J P b := by
  obtain ⟨hd, rfl⟩ := hd
  intro p e s m args below meth c Qw B hF H ls locs cells slots h1 h2 h3 h4 h5 h6
  exact va_tlen B.1 B.2.1 (B.2.2.2.2.2.2.2.1.2 j hj) h4 hv hd (kk p e s m args below meth c Qw B hF H ls locs cells slots h1 h2 h3 h4 h5 h6)
-- arrays of the pool
theorem xtys0 : (xtys V)[0]? = some (V.2.2.1 0, FieldType.int) := xtys_get V rfl
theorem xtys1 : (xtys V)[1]? = some (V.2.2.1 1, FieldType.long) := xtys_get V rfl
theorem xG_iald {r : Option Nat} {a n : Nat} {i : Int32} (hd : xd y pc 1 pc' .iaload) (hr : r = some a) (ha : S[a]? = some (64, n)) (hi : vp_in i n) (kk : xG l V y R F pc' lv (xi (I a i.toNatClampNeg) :: st) S I J P b) : xG l V y R F pc lv (xi i :: xq r :: st) S I J P b := by
  obtain ⟨hd, rfl⟩ := hd
  subst hr
  intro p e s m args below meth c Qw B hF H ls locs cells slots h1 h2 h3 h4 h5 h6
  exact va_iald B.1 B.2.1 B.2.2.2.2.2.2.1 h2 a 0 (xws_get ha) xtys0 hi hd (kk p e s m args below meth c Qw B hF H ls locs cells slots h1 h2 h3 h4 h5 h6)
theorem xG_lald {r : Option Nat} {a n : Nat} {i : Int32} (hd : xd y pc 1 pc' .laload) (hr : r = some a) (ha : S[a]? = some (65, n)) (hi : vp_in i n) (kk : xG l V y R F pc' lv (xj (J a i.toNatClampNeg) :: st) S I J P b) : xG l V y R F pc lv (xi i :: xq r :: st) S I J P b := by
  obtain ⟨hd, rfl⟩ := hd
  subst hr
  intro p e s m args below meth c Qw B hF H ls locs cells slots h1 h2 h3 h4 h5 h6
  exact va_lald B.1 B.2.1 B.2.2.2.2.2.2.1 h2 a 1 (xws_getj ha) xtys1 hi hd (kk p e s m args below meth c Qw B hF H ls locs cells slots h1 h2 h3 h4 h5 h6)
theorem xG_aald {r : Option Nat} {a n t : Nat} {C : String} {i : Int32} (hd : xd y pc 1 pc' .aaload) (hr : r = some a) (ha : S[a]? = some (t + 66, n)) (ht : xAt[t + 2]? = some (.object C)) (hi : vp_in i n) (kk : xG l V y R F pc' lv (xq (P a i.toNatClampNeg) :: st) S I J P b) : xG l V y R F pc lv (xi i :: xq r :: st) S I J P b := by
  obtain ⟨hd, rfl⟩ := hd
  subst hr
  intro p e s m args below meth c Qw B hF H ls locs cells slots h1 h2 h3 h4 h5 h6
  exact va_aldq B.1 B.2.1 B.2.2.2.2.2.2.1 h2 a (t + 2) (xws_getq ha) (xtys_get V ht) hi hd (kk p e s m args below meth c Qw B hF H ls locs cells slots h1 h2 h3 h4 h5 h6)
theorem xG_alen {r : Option Nat} {a n t : Nat} {v : Int32} {ty : FieldType} (hd : xd y pc 1 pc' .arraylength) (hr : r = some a) (ha : S[a]? = some (t + 64, n)) (ht : xAt[t]? = some ty) (hv : Int32.ofNat n = v) (kk : xG l V y R F pc' lv (xi v :: st) S I J P b) : xG l V y R F pc lv (xq r :: st) S I J P b := by
  obtain ⟨hd, rfl⟩ := hd
  subst hr
  intro p e s m args below meth c Qw B hF H ls locs cells slots h1 h2 h3 h4 h5 h6
  exact va_alen B.1 B.2.1 B.2.2.2.2.2.2.1 h2 a t (xws_arr ha) (xtys_get V ht) hv hd (kk p e s m args below meth c Qw B hF H ls locs cells slots h1 h2 h3 h4 h5 h6)
/-- behind a write into an array -/
theorem x_stored {s : State} {H H1 : Heap} {locs : List Loc} {a n t k : Nat} {I' : xIt} {J' : xJt} {P' : xPt} (hP : va_P V.2.1 xCl (xws V S I J P) H) (h4 : va_S (xA V) s.heap H locs) (ha : S[a]? = some (t + 64, n)) (hoc : ∀ (i : Nat) (q : Nat × Nat), i ≠ a → xcell V I' J' P' i q = xcell V I J P i q) (z : H1.size = H.size) (oq : ∀ q : Nat, q ≠ V.1 + a → H1[q]? = H[q]?) (hc : H1[V.1 + a]? = some (vp_cell (V.2.2.1 t) (n, xco V I' J' P' a t))) :
    va_P V.2.1 xCl (xws V S I' J' P') H1 ∧ va_S (xA V) s.heap H1 (locs ++ [⟨V.1 + a, k⟩]) := by
  have he := xws_arr (V := V) (I := I) (J := J) (P := P) ha
  have hD := xws_D (V := V) (S := S) (I := I) (J := J) (P := P)
  have h := xws_set (V := V) (I := I) (J := J) (P := P) (I' := I') (J' := J') (P' := P') ha hoc
  refine ⟨?_, h4.put z oq (hD.2 a _ he)⟩
  rw [← h]
  refine hP.set hD he ?_ oq
  rw [xcell, if_neg (by simp)]
  simp only [Nat.add_sub_cancel]
  exact hc
theorem x_in {i : Int32} {n : Nat} (h : vp_in i n) : ¬ i < 0 ∧ i.toNatClampNeg < n := ⟨fun z => h (Or.inl z), Nat.not_le.mp fun z => h (Or.inr z)⟩
theorem xG_iast {r : Option Nat} {a n : Nat} {i x : Int32} (hd : xd y pc 1 pc' .iastore) (hr : r = some a) (ha : S[a]? = some (64, n)) (hi : vp_in i n) (kk : xG l V y R F pc' lv st S (xu I a i.toNatClampNeg x) J P b) : xG l V y R F pc lv (xi x :: xi i :: xq r :: st) S I J P b := by
  obtain ⟨hd, rfl⟩ := hd
  subst hr
  intro p e s m args below meth c Qw B hF H ls locs cells slots h1 h2 h3 h4 h5 h6
  refine W.iast (a := V.1 + a) B.1 B.2.1 (h2 a _ (xws_get ha)) ((B.2.2.2.2.2.2.1.2 0 _ xtys0).1 n (fun j => .int (I a j))) (fun q => by cases q) (by show ¬ (i < 0 ∨ (arrV _ _ _).slots.size ≤ _); rw [arrV_size]; exact hi) rfl rfl hd fun H1 e1 z oq => ?_
  obtain ⟨g1, g3⟩ := x_stored (t := 0) (k := i.toNatClampNeg) (I' := xu I a i.toNatClampNeg x) (J' := J) (P' := P) h2 h4 ha (fun i q hi => xcell_I hi q) z oq (by
    rw [e1]
    show _ = some (vp_cell _ (n, .inl _))
    rw [vp_cell_i, vp_cell_i, arrV_store]
    congr 2
    funext q
    by_cases hq : q = i.toNatClampNeg
    · subst hq
      simp [updV, xu_at]
    · simp [updV, hq, xu_nk hq])
  exact kk p e s m args below meth c Qw B hF H1 ls _ cells slots h1 g1 (z.trans h3) g3 h5 h6
theorem xG_last {r : Option Nat} {a n : Nat} {i : Int32} {x : Int64} (hd : xd y pc 1 pc' .lastore) (hr : r = some a) (ha : S[a]? = some (65, n)) (hi : vp_in i n) (kk : xG l V y R F pc' lv st S I (xu J a i.toNatClampNeg x) P b) : xG l V y R F pc lv (xj x :: xi i :: xq r :: st) S I J P b := by
  obtain ⟨hd, rfl⟩ := hd
  subst hr
  intro p e s m args below meth c Qw B hF H ls locs cells slots h1 h2 h3 h4 h5 h6
  refine W.last (a := V.1 + a) B.1 B.2.1 (h2 a _ (xws_getj ha)) ((B.2.2.2.2.2.2.1.2 1 _ xtys1).1 n (fun j => .long (J a j))) (fun q => by cases q) (by show ¬ (i < 0 ∨ (arrV _ _ _).slots.size ≤ _); rw [arrV_size]; exact hi) rfl rfl hd fun H1 e1 z oq => ?_
  obtain ⟨g1, g3⟩ := x_stored (t := 1) (k := i.toNatClampNeg) (I' := I) (J' := xu J a i.toNatClampNeg x) (P' := P) h2 h4 ha (fun i q hi => xcell_J hi q) z oq (by
    rw [e1]
    show _ = some (vp_cell _ (n, .inr (.inl _)))
    rw [vp_cell_l, vp_cell_l, arrV_store]
    congr 2
    funext q
    by_cases hq : q = i.toNatClampNeg
    · subst hq
      simp [updV, xu_at]
    · simp [updV, hq, xu_nk hq])
  exact kk p e s m args below meth c Qw B hF H1 ls _ cells slots h1 g1 (z.trans h3) g3 h5 h6
theorem xG_aast {r x : Option Nat} {a n t : Nat} {C : String} {i : Int32} (hd : xd y pc 1 pc' .aastore) (hr : r = some a) (ha : S[a]? = some (t + 66, n)) (ht : xAt[t + 2]? = some (.object C)) (hx : ∀ v, x = some v → ∃ ci k, S[v]? = some (ci, k) ∧ ci < 64 ∧ (xCl[ci]?).map (fun q => q.1) = some C) (hi : vp_in i n) (kk : xG l V y R F pc' lv st S I J (xu P a i.toNatClampNeg x) b) : xG l V y R F pc lv (xq x :: xi i :: xq r :: st) S I J P b := by
  obtain ⟨hd, rfl⟩ := hd
  subst hr
  intro p e s m args below meth c Qw B hF H ls locs cells slots h1 h2 h3 h4 h5 h6
  have hlt := x_in hi
  have fin1 : ∀ (H1 : Heap) (lc : List Loc), H1[V.1 + a]? = some ((vp_cell (V.2.2.1 (t + 2)) (n, xco V I J P a (t + 2))).setSlot i.toNatClampNeg (xv V (xq x))) → H1.size = H.size → (∀ q : Nat, q ≠ V.1 + a → H1[q]? = H[q]?) → lc = locs ++ [⟨V.1 + a, i.toNatClampNeg⟩] → W p l e R s m args below meth c H1 lc cells slots Qw (F0 m (pc + 1) ls (st.map (xv V))) := by
    intro H1 lc e1 z oq elc
    subst elc
    obtain ⟨g1, g3⟩ := x_stored (t := t + 2) (k := i.toNatClampNeg) (I' := I) (J' := J) (P' := xu P a i.toNatClampNeg x) h2 h4 ha (fun i q hi => xcell_P hi q) z oq (by
      rw [e1]
      show some ((vp_cell _ (n, .inr (.inr (.inr (.inr _))))).setSlot _ _) = some (vp_cell _ (n, .inr (.inr (.inr (.inr _)))))
      rw [vp_cell_q, vp_cell_q, arrV_store]
      congr 2
      funext q
      by_cases hq : q = i.toNatClampNeg
      · subst hq
        simp [updV, xu_at, xv]
      · simp [updV, hq, xu_nk hq])
    exact kk p e s m args below meth c Qw B hF H1 ls _ cells slots h1 g1 (z.trans h3) g3 h5 h6
  cases x with
  | none =>
    exact va_WaastN (C := C) (a := V.1 + a) B.1 B.2.1 (h2 a _ (xws_arr ha)) ((B.2.2.2.2.2.2.1.2 (t + 2) _ (xtys_get V ht)).1 n _) (fun h => by cases h) (by show ¬ (i < 0 ∨ (arrV _ _ _).slots.size ≤ _); rw [arrV_size]; exact hi) rfl rfl hd (fun H1 e1 z oq => fin1 H1 _ e1 z oq rfl)
  | some v =>
    obtain ⟨ci, k0, hv, hci, hcl⟩ := hx v rfl
    obtain ⟨q, hq, hqc⟩ := Option.map_eq_some_iff.mp hcl
    obtain ⟨r', hr', cellV, g1, g2, g3, -⟩ := h2 v _ (xws_obj hv hci)
    have hcls := (B.2.2.2.2.2.2.1.1 ci q hq).2
    rw [hqc] at hcls
    obtain ⟨kA, comp, k1, k2, k3, -⟩ := (B.2.2.2.2.2.2.1.2 (t + 2) _ (xtys_get V ht)).2
    have hcomp : comp = V.2.1.1 ci := Option.some.inj (k3.symm.trans hcls.1)
    subst hcomp
    obtain ⟨kC, hkC, -⟩ := hcls.2
    exact W.aast (a := V.1 + a) (v := V.1 + v) B.1 B.2.1 (h2 a _ (xws_arr ha)) (fun q h => by cases h) (fun h => by cases h) k1 k2 rfl hkC ⟨hlt.1, by show _ < (arrV _ _ _).slots.size; rw [arrV_size]; exact hlt.2⟩ g1 (fun q h => by rw [g3] at h; cases h) (by rw [g2]; exact hkC) (by rw [g2]; exact va_assign hcls) rfl rfl hd (fun H1 e1 z oq => fin1 H1 _ e1 z oq rfl)
end XH

/-! xG: the walk of a method's body over a pure state; xMet: a method's contract over pure states -/
abbrev xFin : Type := Program → Env → State → MethodId → Array Value → List Frame → Method → Code → (State → Prop) → Prop
def xtys (V : xV) : List (ClassId × FieldType) := xAt.mapIdx (fun k ty => (V.2.2.1 k, ty))
theorem xtys_get (V : xV) {t : Nat} {ty : FieldType} (h : xAt[t]? = some ty) : (xtys V)[t]? = some (V.2.2.1 t, ty) := by
  simp [xtys, List.getElem?_mapIdx, h]
/-- the fixed arrays: those of the statics, then the script -/
def xAr (V : xV) (j : Nat) : FieldType × Nat × (Nat → Int32) := match xSa[j]? with
  | some q => q
  | none => (.int, V.2.2.2.2.1, V.2.2.2.2.2)
def xZ (V : xV) (U : State) (H : Heap) : Prop := (∀ (j : Nat) (q : String × String × String), xSf[j]? = some q → va_Z q.1 q.2.1 q.2.2 (.ref (V.2.2.2.1 j)) (xA V) U H) ∧ ∀ j : Nat, j < 4 → va_T (xAr V j).1 (V.2.2.2.1 j) (xAr V j).2.1 (fun k => .int ((xAr V j).2.2 k)) (xA V) U H
theorem xZ.moved {V : xV} {u U : State} {H : Heap} (hvm : u.vm.Alike U.vm) (h : xZ V u H) : xZ V U H := ⟨fun j q hj => (h.1 j q hj).moved hvm, fun j hj => (h.2 j hj).moved hvm⟩
theorem xZ.kept {V : xV} {U : State} {H H1 : Heap} (h : xZ V U H) (hq : ∀ a : Nat, a < H.size → ¬ xA V a → H1[a]? = H[a]?) : xZ V U H1 := ⟨fun j q hj => (h.1 j q hj).kept hq, fun j hj => (h.2 j hj).kept hq⟩
/-- words of private members of nest mates, and of arrays over the system's own objects: they are carried -/
def xN (U : State) : Prop := (∀ (j : Nat) (q : String × Nat × String × String × String × String), xNf1[j]? = some q → va_Nw (.fieldLinkNest q.1 q.2.1 q.2.2.1 q.2.2.2.1 q.2.2.2.2.1 q.2.2.2.2.2) U) ∧ (∀ (j : Nat) (q : String × Nat × MethodName × String), xNm1[j]? = some q → va_Nw (.methodLinkNest q.1 q.2.1 q.2.2.1 q.2.2.2) U) ∧ ∀ (j : Nat) (C : String), xAo[j]? = some C → va_AO C U
theorem xN.moved {s U : State} (hW : s.WarmedH U.vm) (h : xN s) : xN U := ⟨fun j q hj => va_Nw.warmF hW (h.1 j q hj), fun j q hj => va_Nw.warmM hW (h.2.1 j q hj), fun j C hj => va_AO.moved hW.alike (h.2.2 j C hj)⟩
theorem xN.same {s U : State} (hW : s.vm = U.vm) (h : xN s) : xN U := ⟨fun j q hj => va_Nw.same rfl hW (h.1 j q hj), fun j q hj => va_Nw.same rfl hW (h.2.1 j q hj), fun j C hj => va_AO.moved (by rw [hW]; exact Vm.Alike.refl _) (h.2.2 j C hj)⟩
def xW (V : xV) (S : xSh) (I : xIt) (J : xJt) (P : xPt) (U : State) : Prop := va_K V.2.1 xCl (xtys V) U ∧ va_P V.2.1 xCl (xws V S I J P) U.heap ∧ U.heap.size = V.1 + S.length ∧ xZ V U U.heap ∧ xN U
/-- what a body's walk leans on -/
def xB (V : xV) (y : xY) (p : Program) (s : State) (m : MethodId) (args : Array Value) (meth : Method) (c : Code) : Prop :=
  p.tables.exec = Jvm.exec ∧ c.code = y.2.1 ∧ c.maxLocals = y.2.2.1 ∧ (∀ w ∈ xTB, w.before args s = true) ∧ s.vm.findClass y.1.cls = some m.cls ∧ meth.name = y.1.name ∧ va_K V.2.1 xCl (xtys V) s ∧ xZ V s s.heap ∧ V.1 ≤ s.heap.size ∧ xN s
def xG (l : Launch) (V : xV) (y : xY) (R : Room) (F : xFin) (pc : Nat) (lv : List (Nat × xX)) (st : List xX) (S : xSh) (I : xIt) (J : xJt) (P : xPt) (b : Nat × Nat) : Prop :=
  ∀ (p : Program) (e : Env) (s : State) (m : MethodId) (args : Array Value) (below : List Frame) (meth : Method) (c : Code) (Qw : State → Prop), xB V y p s m args meth c → F p e s m args below meth c Qw →
  ∀ (H : Heap) (ls : Array Slot) (locs : List Loc) (cells slots : Nat), lv_has ls y.2.2.1 (xl V lv) → va_P V.2.1 xCl (xws V S I J P) H → H.size = V.1 + S.length → va_S (xA V) s.heap H locs → cells + b.1 ≤ R.cells → slots + b.2 ≤ R.slots →
  W p l e R s m args below meth c H locs cells slots Qw (F0 m pc ls (st.map (xv V)))
/-- an instruction: its place, its length, the place behind it -/
def xd (y : xY) (pc n pc' : Nat) (i : Instr) : Prop := decode y.2.1 pc = .ok (i, n) ∧ pc + n = pc'
abbrev xPo : Type := Option xX → xSh → xIt → xJt → xPt → Prop
def xQ (V : xV) (Po : xPo) : Array Value → State → Outcome → State → Prop := fun _ st oc t => (∃ (r : Option xX) (S : xSh) (I : xIt) (J : xJt) (P : xPt), oc = .returned (r.map (xv V)) ∧ Po r S I J P ∧ xW V S I J P t) ∧ va_F (xA V) st t
def xR (d mc ms : Nat) : Room := { frames := d, cells := mc, slots := ms, locals := 80 * d }
def xw (y : xY) : List Jvm.Cond := Jvm.Cond.code y.1 y.2.1 y.2.2.1 y.2.2.2 :: xTB
def xMet (l : Launch) (V : xV) (y : xY) (d mc ms : Nat) (as : List xX) (S : xSh) (I : xIt) (J : xJt) (P : xPt) (Po : xPo) : Prop :=
  Met l y.1 (xw y) (xR d mc ms) (va_Pc (as.map (xv V)) (xW V S I J P)) (xQ V Po) mc ms (xA V)
def xFn (V : xV) (y : xY) (R : Room) (Po : xPo) : xFin := fun _ _ s _ args below meth _ Qw => Qw = MQ below (xQ V Po) args s R.cells R.slots (xA V) ∧ meth.sig.returnType = y.2.2.2 ∧ meth.locks = false
theorem xSl (V : xV) (as : List xX) : (lg_sl (as.map (xv V))).length = (as.map (fun v => if xc2 v then 2 else 1)).sum := by
  induction as with
  | nil => rfl
  | cons v t ih =>
    have e : lg_sl ((v :: t).map (xv V)) = (if (xv V v).category = 2 then [.val (xv V v), .second] else [.val (xv V v)]) ++ lg_sl (t.map (xv V)) := by simp [lg_sl]
    rw [e, List.length_append, ih]
    cases hc : xc2 v with
    | true => simp [xv_c2 V hc, hc]
    | false => simp [xv_c1 V hc, hc]
theorem xMet_of {l : Launch} {V : xV} {y : xY} {d mc ms : Nat} {as : List xX} {S : xSh} {I : xIt} {J : xJt} {P : xPt} {Po : xPo} (hy : plainName y.1.cls = true) (hn : (as.map (fun v => if xc2 v then 2 else 1)).sum ≤ y.2.2.1)
    (h : xG l V y (xR d mc ms) (xFn V y (xR d mc ms) Po) 0 (xargs 0 as) [] S I J P (mc, ms)) : xMet l V y d mc ms as S I J P Po := by
  refine Met.ofW (cc := y.2.1) (maxL := y.2.2.1) (ret := y.2.2.2) hy rfl ?_
  intro p e s m args below meth c s₁ B hml hv
  obtain ⟨rfl, hK, hP, hz, hZ, hN⟩ := hv
  have hts := atoms_spec (ws := xw y) B.pre
  have hl := lv_entry (as.map (xv V)) (n := y.2.2.1) (by rw [xSl]; exact hn)
  rw [xl_args] at hl
  rw [lg_entry_eq]
  exact h p e s m _ below meth c _ ⟨B.exec, B.bytes, hml, fun w hw => hts w (List.mem_cons_of_mem _ hw), findClass_of_methodNamed B.named, (name_of_methodNamed B.named B.method).1, hK, hZ, by omega, hN⟩ ⟨rfl, B.returns, B.notSynchronized⟩
    s.heap _ [] 0 0 hl hP hz va_S.rf (by show 0 + mc ≤ mc; omega) (by show 0 + ms ≤ ms; omega)
section XR1
variable {l : Launch} {V : xV} {y : xY} {R : Room} {F : xFin} {pc pc' : Nat} {lv lv' : List (Nat × xX)} {st : List xX} {S : xSh} {I : xIt} {J : xJt} {P : xPt} {b : Nat × Nat} {Po : xPo}
/-- the world behind a method's end -/
theorem xW_end {s t : State} {H : Heap} {locs : List Loc} (hK : va_K V.2.1 xCl (xtys V) s) (hZ : xZ V s s.heap) (hN : xN s) (hP : va_P V.2.1 xCl (xws V S I J P) H) (hz : H.size = V.1 + S.length) (hS : va_S (xA V) s.heap H locs) (ht : t.heap = H) (hW : s.WarmedH t.vm) : xW V S I J P t := by
  refine ⟨va_K.moved hW.alike hK, by rw [ht]; exact hP, by rw [ht]; exact hz, ?_, hN.moved hW⟩
  rw [ht]
  exact (hZ.moved hW.alike).kept hS.2.1
theorem xG_ireturn {v : Int32} {ty : FieldType} (hd : xd y pc 1 pc' .ireturn) (hr : y.2.2.2 = some ty) (hn : narrow ty (.int v) = .int v) (hp : Po (some (xi v)) S I J P) : xG l V y R (xFn V y R Po) pc lv [xi v] S I J P b := by
  obtain ⟨hd, -⟩ := hd
  intro p e s m args below meth c Qw B hF H ls locs cells slots h1 h2 h3 h4 h5 h6
  obtain ⟨rfl, hret, hlocks⟩ := hF
  refine W.widen (k := R.cells) (n := R.slots) (by omega) (by omega) ?_
  exact W.zret B.1 B.2.1 (hret.trans hr) hn (fun t ht hW => ⟨⟨some (xi v), S, I, J, P, rfl, hp, xW_end B.2.2.2.2.2.2.1 B.2.2.2.2.2.2.2.1 B.2.2.2.2.2.2.2.2.2 h2 h3 h4 ht hW⟩, h4.F ht⟩) h4.2.2 hd hlocks
theorem xG_lreturn {v : Int64} (hd : xd y pc 1 pc' .lreturn) (hr : y.2.2.2 = some .long) (hp : Po (some (xj v)) S I J P) : xG l V y R (xFn V y R Po) pc lv [xj v] S I J P b := by
  obtain ⟨hd, -⟩ := hd
  intro p e s m args below meth c Qw B hF H ls locs cells slots h1 h2 h3 h4 h5 h6
  obtain ⟨rfl, hret, hlocks⟩ := hF
  refine W.widen (k := R.cells) (n := R.slots) (by omega) (by omega) ?_
  exact W.lret B.1 B.2.1 (hret.trans hr) (fun t ht hW => ⟨⟨some (xj v), S, I, J, P, rfl, hp, xW_end B.2.2.2.2.2.2.1 B.2.2.2.2.2.2.2.1 B.2.2.2.2.2.2.2.2.2 h2 h3 h4 ht hW⟩, h4.F ht⟩) h4.2.2 hd hlocks
theorem xG_areturn {r : Option Nat} {n : String} (hd : xd y pc 1 pc' .areturn) (hr : y.2.2.2 = some (.object n)) (hp : Po (some (xq r)) S I J P) : xG l V y R (xFn V y R Po) pc lv [xq r] S I J P b := by
  obtain ⟨hd, -⟩ := hd
  intro p e s m args below meth c Qw B hF H ls locs cells slots h1 h2 h3 h4 h5 h6
  obtain ⟨rfl, hret, hlocks⟩ := hF
  refine W.widen (k := R.cells) (n := R.slots) (by omega) (by omega) ?_
  exact W.aret (v := xv V (xq r)) B.1 B.2.1 (hret.trans hr) (Or.inl ⟨n, rfl⟩) (by cases r with | none => exact Or.inl rfl | some x => exact Or.inr ⟨_, rfl⟩) (fun t ht hW => ⟨⟨some (xq r), S, I, J, P, rfl, hp, xW_end B.2.2.2.2.2.2.1 B.2.2.2.2.2.2.2.1 B.2.2.2.2.2.2.2.2.2 h2 h3 h4 ht hW⟩, h4.F ht⟩) h4.2.2 hd hlocks
theorem xG_return (hd : xd y pc 1 pc' .return_) (hr : y.2.2.2 = none) (hp : Po none S I J P) : xG l V y R (xFn V y R Po) pc lv [] S I J P b := by
  obtain ⟨hd, -⟩ := hd
  intro p e s m args below meth c Qw B hF H ls locs cells slots h1 h2 h3 h4 h5 h6
  obtain ⟨rfl, hret, hlocks⟩ := hF
  refine W.widen (k := R.cells) (n := R.slots) (by omega) (by omega) ?_
  exact W.vret B.1 B.2.1 (hret.trans hr) (fun t ht hW => ⟨⟨none, S, I, J, P, rfl, hp, xW_end B.2.2.2.2.2.2.1 B.2.2.2.2.2.2.2.1 B.2.2.2.2.2.2.2.2.2 h2 h3 h4 ht hW⟩, h4.F ht⟩) h4.2.2 hd hlocks
-- calls
theorem xrun_go {p : Program} {e : Env} {s : State} {m : MethodId} {args : Array Value} {below : List Frame} {meth : Method} {c : Code} {H : Heap} {locs : List Loc} {cells slots mc ms : Nat} {Q : State → Prop} {ls : Array Slot} {st0 rest : List Value} {aa : Array Value}
    (hr : va_Run p l e R s m args below meth c H locs cells slots mc ms (F0 m pc ls st0) rest (xQ V Po aa) (xA V)) (hS : va_S (xA V) s.heap H locs)
    (k : ∀ (r : Option xX) (S' : xSh) (I' : xIt) (J' : xJt) (P' : xPt) (H1 : Heap) (locs1 : List Loc), Po r S' I' J' P' → va_P V.2.1 xCl (xws V S' I' J' P') H1 → H1.size = V.1 + S'.length → va_S (xA V) s.heap H1 locs1 → W p l e R s m args below meth c H1 locs1 (cells + mc) (slots + ms) Q (F0 m (pc + 3) ls ((r.map (xv V)).toList ++ rest))) :
    W p l e R s m args below meth c H locs cells slots Q (F0 m pc ls st0) := by
  intro T hT X
  obtain ⟨v, st₀, t, T', L, h0, X', hL, e1, e2, ⟨⟨r, S', I', J', P', hv, hp, hw⟩, hz, hk⟩, st⟩ := hr T hT X
  have hv : v = r.map (xv V) := by injection hv
  subst hv
  rw [h0] at hz hk
  obtain ⟨t2, a1, b1⟩ := k r S' I' J' P' T'.heap (locs ++ L) hp (by rw [e1]; exact hw.2.1) (by rw [e1]; exact hw.2.2.1)
    ⟨Nat.le_trans hS.1 (by rw [e1]; exact hz), fun q h1 h2 => by rw [e1, hk q (Nat.lt_of_lt_of_le h1 hS.1) h2]; exact hS.2.1 q h1 h2, fun q hq => by
      rcases List.mem_append.mp hq with h | h
      · exact hS.2.2 q h
      · exact hL q h⟩ T' rfl X'
  exact ⟨t2, st t2 a1, b1⟩
theorem xW_blind {as : List Value} : FrameBlind (va_Pc as (xW V S I J P)) := fun a U g mk h => ⟨h.1, va_K.moved (u := U) (U := U.calling g mk a) (Vm.Alike.refl U.vm) h.2.1, h.2.2.1, h.2.2.2.1, h.2.2.2.2.1.moved (Vm.Alike.refl U.vm), h.2.2.2.2.2.same rfl⟩
theorem xW_call {s U : State} {H : Heap} {locs : List Loc} (hK : va_K V.2.1 xCl (xtys V) s) (hZ : xZ V s s.heap) (hN : xN s) (hP : va_P V.2.1 xCl (xws V S I J P) H) (hz : H.size = V.1 + S.length) (hS : va_S (xA V) s.heap H locs) (hU : U.heap = H) (hW : s.WarmedH U.vm) : xW V S I J P U := xW_end hK hZ hN hP hz hS hU hW
/-- what a call needs of the method that is called: its words stand in the tables -/
def xYb (z : xY) (n : Nat) : Prop := Jvm.Cond.code z.1 z.2.1 z.2.2.1 z.2.2.2 ∈ xTB ∧ Jvm.Cond.initialized z.1.cls ∈ xTB ∧ (z.1.cls ≠ "java/lang/invoke/MethodHandle" ∧ z.1.cls ≠ "java/lang/invoke/VarHandle" ∧ (parseMethodDescriptor z.1.desc).map (fun d => d.parameters.length) = some n) ∧ z.2.2.1 ≤ 61
def xYv (z : xY) (n : Nat) : Prop := xYb z n ∧ Jvm.Cond.instanceMethod z.1 ∈ xTB ∧ Jvm.Cond.selects z.1.cls z.1 z.1 ∈ xTB
def xYs (z : xY) (n : Nat) : Prop := xYb z n ∧ Jvm.Cond.static z.1 ∈ xTB
def xYi (z : xY) (n : Nat) : Prop := xYb z n ∧ z.1.name = "<init>" ∧ z.2.2.2 = none ∧ Jvm.Cond.instanceMethod z.1 ∈ xTB
theorem xw_good (z : xY) (h : Jvm.Cond.code z.1 z.2.1 z.2.2.1 z.2.2.2 ∈ xTB) : GoodIn xTB (xw z) := by
  intro w hw
  rcases List.mem_cons.mp hw with rfl | hw
  · exact ⟨h, xTB_good _ h⟩
  · exact ⟨hw, xTB_good _ hw⟩
theorem xCall {s : State} {args : Array Value} {z : xY} {d mc ms n idx : Nat} (hts : ∀ w ∈ xTB, w.before args s = true) (hz : xYb z n) (hl : Jvm.Cond.methodLink y.1.cls idx z.1 ∈ xTB) (hR : d + 1 ≤ R.frames ∧ 80 * d + 80 ≤ R.locals) : CallB R s args y.1.cls idx z.1 z.2.1 z.2.2.1 z.2.2.2 (xw z) (xR d mc ms) mc ms n :=
  callB_of n hts (xw_good z hz.1) rfl rfl rfl (hts _ hz.2.1) (hts _ hl) hz.2.2.1 ⟨hR.1, by
    have := hz.2.2.2
    show 8 + (z.2.2.1 + 11) + 80 * d ≤ R.locals
    omega⟩
theorem xcat (V : xV) (rest : List xX) : ((rest.map (xv V)).map fun v => v.category).sum = (rest.map (fun v => if xc2 v then 2 else 1)).sum := by
  induction rest with
  | nil => rfl
  | cons v t ih =>
    simp only [List.map_cons, List.sum_cons, ih]
    cases hc : xc2 v with
    | true => simp [xv_c2 V hc]
    | false => simp [xv_c1 V hc]
theorem xG_callv {z : xY} {d mc ms n idx a ci k0 : Nat} {r0 : Option Nat} {as rest : List xX} {sg : List xX} (hd : xd y pc 3 pc' (.invokevirtual idx)) (hz : xYv z n) (hl : Jvm.Cond.methodLink y.1.cls idx z.1 ∈ xTB) (hsg : sg = as.reverse ++ xq r0 :: rest) (hr0 : r0 = some a) (hn : as.length = n) (ha : S[a]? = some (ci, k0)) (hci : ci < 64) (hcl : (xCl[ci]?).map (fun q => q.1) = some z.1.cls)
    (hM : xMet l V z d mc ms (xq (some a) :: as) S I J P Po) (hR : d + 1 ≤ R.frames ∧ 80 * d + 80 ≤ R.locals) (hcat : (rest.map (fun v => if xc2 v then 2 else 1)).sum ≤ 8) (hb : mc ≤ b.1 ∧ ms ≤ b.2)
    (k : ∀ (r : Option xX) (S' : xSh) (I' : xIt) (J' : xJt) (P' : xPt), Po r S' I' J' P' → xG l V y R F pc' lv (r.toList ++ rest) S' I' J' P' (b.1 - mc, b.2 - ms)) : xG l V y R F pc lv sg S I J P b := by
  obtain ⟨hd, rfl⟩ := hd
  subst hsg
  subst hr0
  intro p e s m args below meth c Qw B hF H ls locs cells slots h1 h2 h3 h4 h5 h6
  have ho : (xws V S I J P)[a]? = some (V.1 + a, .inr (ci, xfs V I J P a ci)) := xws_obj ha hci
  obtain ⟨q, hq, hqc⟩ := Option.map_eq_some_iff.mp hcl
  have hrec := va_recv B.2.2.2.2.2.2.1 h2 hq ho
  rw [hqc] at hrec
  refine xrun_go (Po := Po) (mc := mc) (ms := ms) (rest := rest.map (xv V)) (va_runV (C := z.1.cls) (b := V.1 + a) (As := as.map (xv V)) ⟨B.1, B.2.1, B.2.2.1, B.2.2.2.2.1, B.2.2.2.1⟩ hM ⟨xCall B.2.2.2.1 hz.1 hl hR, B.2.2.2.1 _ hz.2.1, B.2.2.2.1 _ hz.2.2⟩
    ⟨xW_blind, hrec, fun U hU hW => ⟨by simp [xv, va_rf], xW_call B.2.2.2.2.2.2.1 B.2.2.2.2.2.2.2.1 B.2.2.2.2.2.2.2.2.2 h2 h3 h4 hU hW⟩⟩ rfl (by simp [hn]) h1.1 (by simp [xv, va_rf, List.map_reverse]) (lv_room (by rw [xcat]; exact hcat)) hd ⟨by omega, by omega⟩) h4 ?_
  intro r S' I' J' P' H1 locs1 hp g1 g2 g3
  have kk := k r S' I' J' P' hp p e s m args below meth c Qw B hF H1 ls locs1 (cells + mc) (slots + ms) h1 g1 g2 g3 (by show cells + mc + (b.1 - mc) ≤ R.cells; omega) (by show slots + ms + (b.2 - ms) ≤ R.slots; omega)
  have e1 : (r.toList ++ rest).map (xv V) = (r.map (xv V)).toList ++ rest.map (xv V) := by cases r <;> rfl
  rw [e1] at kk
  exact kk
theorem xG_calls {z : xY} {d mc ms n idx : Nat} {as rest : List xX} {sg : List xX} (hd : xd y pc 3 pc' (.invokestatic idx)) (hz : xYs z n) (hl : Jvm.Cond.methodLink y.1.cls idx z.1 ∈ xTB) (hsg : sg = as.reverse ++ rest) (hn : as.length = n)
    (hM : xMet l V z d mc ms as S I J P Po) (hR : d + 1 ≤ R.frames ∧ 80 * d + 80 ≤ R.locals) (hcat : (rest.map (fun v => if xc2 v then 2 else 1)).sum ≤ 8) (hb : mc ≤ b.1 ∧ ms ≤ b.2)
    (k : ∀ (r : Option xX) (S' : xSh) (I' : xIt) (J' : xJt) (P' : xPt), Po r S' I' J' P' → xG l V y R F pc' lv (r.toList ++ rest) S' I' J' P' (b.1 - mc, b.2 - ms)) : xG l V y R F pc lv sg S I J P b := by
  obtain ⟨hd, rfl⟩ := hd
  subst hsg
  intro p e s m args below meth c Qw B hF H ls locs cells slots h1 h2 h3 h4 h5 h6
  refine xrun_go (Po := Po) (mc := mc) (ms := ms) (rest := rest.map (xv V)) (va_runS (As := as.map (xv V)) ⟨B.1, B.2.1, B.2.2.1, B.2.2.2.2.1, B.2.2.2.1⟩ hM ⟨xCall B.2.2.2.1 hz.1 hl hR, B.2.2.2.1 _ hz.2⟩
    ⟨xW_blind, fun U hU hW => ⟨rfl, xW_call B.2.2.2.2.2.2.1 B.2.2.2.2.2.2.2.1 B.2.2.2.2.2.2.2.2.2 h2 h3 h4 hU hW⟩⟩ rfl (by simp [hn]) h1.1 (by simp [List.map_reverse]) (lv_room (by rw [xcat]; exact hcat)) hd ⟨by omega, by omega⟩) h4 ?_
  intro r S' I' J' P' H1 locs1 hp g1 g2 g3
  have kk := k r S' I' J' P' hp p e s m args below meth c Qw B hF H1 ls locs1 (cells + mc) (slots + ms) h1 g1 g2 g3 (by show cells + mc + (b.1 - mc) ≤ R.cells; omega) (by show slots + ms + (b.2 - ms) ≤ R.slots; omega)
  have e1 : (r.toList ++ rest).map (xv V) = (r.map (xv V)).toList ++ rest.map (xv V) := by cases r <;> rfl
  rw [e1] at kk
  exact kk
theorem xG_calln {z : xY} {d mc ms n idx a : Nat} {r0 : Option Nat} {as rest : List xX} {sg : List xX} (hd : xd y pc 3 pc' (.invokespecial idx)) (hz : xYi z n) (hl : Jvm.Cond.methodLink y.1.cls idx z.1 ∈ xTB) (hsg : sg = as.reverse ++ xq r0 :: rest) (hr0 : r0 = some a) (hn : as.length = n)
    (hM : xMet l V z d mc ms (xq (some a) :: as) S I J P Po) (hR : d + 1 ≤ R.frames ∧ 80 * d + 80 ≤ R.locals) (hcat : (rest.map (fun v => if xc2 v then 2 else 1)).sum ≤ 8) (hb : mc ≤ b.1 ∧ ms ≤ b.2)
    (k : ∀ (r : Option xX) (S' : xSh) (I' : xIt) (J' : xJt) (P' : xPt), Po r S' I' J' P' → xG l V y R F pc' lv (r.toList ++ rest) S' I' J' P' (b.1 - mc, b.2 - ms)) : xG l V y R F pc lv sg S I J P b := by
  obtain ⟨hd, rfl⟩ := hd
  subst hsg
  subst hr0
  intro p e s m args below meth c Qw B hF H ls locs cells slots h1 h2 h3 h4 h5 h6
  have hcb := xCall (d := d) (mc := mc) (ms := ms) (y := y) (R := R) B.2.2.2.1 hz.1 hl hR
  rw [hz.2.2.1] at hcb
  refine xrun_go (Po := Po) (mc := mc) (ms := ms) (rest := rest.map (xv V)) (va_runI (b := V.1 + a) (As := as.map (xv V)) ⟨B.1, B.2.1, B.2.2.1, B.2.2.2.2.1, B.2.2.2.1⟩ hM ⟨hcb, hz.2.1, B.2.2.2.1 _ hz.2.2.2⟩
    ⟨xW_blind, fun U hU hW => ⟨by simp [xv, va_rf], xW_call B.2.2.2.2.2.2.1 B.2.2.2.2.2.2.2.1 B.2.2.2.2.2.2.2.2.2 h2 h3 h4 hU hW⟩⟩ rfl (by simp [hn]) h1.1 (by simp [xv, va_rf, List.map_reverse]) (lv_room (by rw [xcat]; exact hcat)) hd ⟨by omega, by omega⟩) h4 ?_
  intro r S' I' J' P' H1 locs1 hp g1 g2 g3
  have kk := k r S' I' J' P' hp p e s m args below meth c Qw B hF H1 ls locs1 (cells + mc) (slots + ms) h1 g1 g2 g3 (by show cells + mc + (b.1 - mc) ≤ R.cells; omega) (by show slots + ms + (b.2 - ms) ≤ R.slots; omega)
  have e1 : (r.toList ++ rest).map (xv V) = (r.map (xv V)).toList ++ rest.map (xv V) := by cases r <;> rfl
  rw [e1] at kk
  exact kk
theorem xG_calln2 {z : xY} {d mc ms n idx a j : Nat} {host : String} {r0 : Option Nat} {as rest : List xX} {sg : List xX} (hd : xd y pc 3 pc' (.invokespecial idx)) (hz : xYi z n) (hl : xNm1[j]? = some (y.1.cls, idx, z.1, host)) (hsg : sg = as.reverse ++ xq r0 :: rest) (hr0 : r0 = some a) (hn : as.length = n)
    (hM : xMet l V z d mc ms (xq (some a) :: as) S I J P Po) (hR : d + 1 ≤ R.frames ∧ 80 * d + 80 ≤ R.locals) (hcat : (rest.map (fun v => if xc2 v then 2 else 1)).sum ≤ 8) (hb : mc ≤ b.1 ∧ ms ≤ b.2)
    (k : ∀ (r : Option xX) (S' : xSh) (I' : xIt) (J' : xJt) (P' : xPt), Po r S' I' J' P' → xG l V y R F pc' lv (r.toList ++ rest) S' I' J' P' (b.1 - mc, b.2 - ms)) : xG l V y R F pc lv sg S I J P b := by
  obtain ⟨hd, rfl⟩ := hd
  subst hsg
  subst hr0
  intro p e s m args below meth c Qw B hF H ls locs cells slots h1 h2 h3 h4 h5 h6
  have hcb := va_cnB (R := R) (rm := xR d mc ms) (mc := mc) (ms := ms) (ws := xw z) n B.2.2.2.1 (xw_good z hz.1.1) rfl rfl rfl (B.2.2.2.2.2.2.2.2.2.2.1 j _ hl) (B.2.2.2.1 _ hz.1.2.1) hz.1.2.2.1 ⟨hR.1, by
    have := hz.1.2.2.2
    show 8 + (z.2.2.1 + 11) + 80 * d ≤ R.locals
    omega⟩
  rw [hz.2.2.1] at hcb
  refine xrun_go (Po := Po) (mc := mc) (ms := ms) (rest := rest.map (xv V)) (va_runIN (b := V.1 + a) (As := as.map (xv V)) ⟨B.1, B.2.1, B.2.2.1, B.2.2.2.2.1, B.2.2.2.1⟩ hM ⟨hcb, hz.2.1, B.2.2.2.1 _ hz.2.2.2⟩
    ⟨xW_blind, fun U hU hW => ⟨by simp [xv, va_rf], xW_call B.2.2.2.2.2.2.1 B.2.2.2.2.2.2.2.1 B.2.2.2.2.2.2.2.2.2 h2 h3 h4 hU hW⟩⟩ rfl (by simp [hn]) h1.1 (by simp [xv, va_rf, List.map_reverse]) (lv_room (by rw [xcat]; exact hcat)) hd ⟨by omega, by omega⟩) h4 ?_
  intro r S' I' J' P' H1 locs1 hp g1 g2 g3
  have kk := k r S' I' J' P' hp p e s m args below meth c Qw B hF H1 ls locs1 (cells + mc) (slots + ms) h1 g1 g2 g3 (by show cells + mc + (b.1 - mc) ≤ R.cells; omega) (by show slots + ms + (b.2 - ms) ≤ R.slots; omega)
  have e1 : (r.toList ++ rest).map (xv V) = (r.map (xv V)).toList ++ rest.map (xv V) := by cases r <;> rfl
  rw [e1] at kk
  exact kk
theorem xG_objInit {idx : Nat} {r0 : Option Nat} {a : Nat} (hd : xd y pc 3 pc' (.invokespecial idx)) (hl : Jvm.Cond.methodLink y.1.cls idx objectInit ∈ xTB) (hi : Jvm.Cond.instanceMethod objectInit ∈ xTB) (hc : Jvm.Cond.code objectInit ⟨#[0xb1]⟩ 1 none ∈ xTB) (hr0 : r0 = some a) (hR : 1 ≤ R.frames ∧ 20 ≤ R.locals) (hcat : (st.map (fun v => if xc2 v then 2 else 1)).sum ≤ 8)
    (k : xG l V y R F pc' lv st S I J P b) : xG l V y R F pc lv (xq r0 :: st) S I J P b := by
  obtain ⟨hd, rfl⟩ := hd
  subst hr0
  intro p e s m args below meth c Qw B hF H ls locs cells slots h1 h2 h3 h4 h5 h6
  have hrm := lv_room (m := m) (pc := pc) (ls := ls) (rest := (xq (some a) :: st).map (xv V)) (st := st.map (xv V)) (by rw [xcat]; exact hcat)
  exact W.objInit (a := V.1 + a) (rest := st.map (xv V)) B.1 B.2.1 B.2.2.2.2.1 (B.2.2.2.1 _ hl) (B.2.2.2.1 _ hi) (B.2.2.2.1 _ hc) rfl (h1.1.trans B.2.2.1.symm) rfl hd hR.1 (by omega) (k p e s m args below meth c Qw B hF H ls locs cells slots h1 h2 h3 h4 h5 h6)
end XR1

/-! THE CLAIM OUT OF ONE WALK OF THE LAW'S BODY. Your part is whole_start (and what it stands on); all else here is the same for every law, but numbers. -/
def R_law : String := "DirectorySessionLaw"
def lw_P (b : Addr) (xs : List Int32) (args : Array Value) (s : State) : Prop := args = #[.ref b] ∧ s.IntsAt b xs ∧ xs.length ≤ 2560 ∧ (Jvm.Cond.and given_1 narrow_1).before args s = true
def lw_Q (_ : Array Value) (s : State) (o : Outcome) (t : State) : Prop := o = .returned (some (.int 1)) ∧ Framed s o t [] 600000 7302250
def lw_Z (below : List Frame) (a : Array Value) (s : State) : State → Prop := fun t => ∃ o, t.status = .running ∧ Ended t below o ∧ lw_Q a s o t
/-- the law's own end, with 1 on the stack, nothing written that was there before, its room as the claim has it -/
theorem lw_ret {p : Program} {l : Launch} {e : Env} {s : State} {m : MethodId} {below : List Frame} {meth : Method} {c : Code} {b : Nat} (hx : p.tables.exec = Jvm.exec) (hb : c.code = code) (hr : meth.sig.returnType = ret) (hlocks : meth.locks = false) {pc : Nat} {H : Heap} {ls : Array Slot} (hdg : decode code pc = .ok (.ireturn, 1)) : W p l e room_1 s m #[Value.ref b] below meth c H [] 600000 7302250 (lw_Z below #[Value.ref b] s) (F0 m pc ls [.int 1]) := by
  intro T hT X
  obtain ⟨fs, hret, hrun, hended, hW, hframe⟩ := X.leave (v := some (.int 1)) (hlocks := hlocks) (fun h => by rw [hr] at h; cases h)
  have hmeth' : T.vm.method? m = some meth := X.method'
  refine ⟨T.setFrames fs, ?_, .returned (some (.int 1)), hrun, hended, rfl, ⟨_, rfl⟩, hW, hframe⟩
  jvm_step X.here [X.here.top, hx, hb, hdg, hmeth', hr, ret, narrow_b1]
  (try refine ⟨rfl, ?_⟩); (try refine ⟨rfl, ?_⟩)
  first | (intro acts; rw [hret _ acts rfl rfl rfl]) | rw [hret _ _ rfl rfl rfl]
  exact Steps.refl _
/-- what holds at the law's entry: the machine, the code, the tables' words (any of lw_tbl by 'hts w (by decide +kernel)'), the script of L ints xs at the cell b, what the Statement gives of the start (any of its parts by flat_of_before) -/
def lw_At (p : Program) (s : State) (m : MethodId) (meth : Method) (c : Code) (b L : Nat) (xs : Nat → Int32) : Prop :=
  p.tables.exec = Jvm.exec ∧ c.code = code ∧ meth.sig.returnType = ret ∧ c.maxLocals = 4 ∧ s.vm.findClass R_law = some m.cls ∧ (∀ w ∈ lw_tbl, w.before #[Value.ref b] s = true) ∧ va_X b L xs s s.heap ∧ b < s.heap.size ∧ meth.locks = false ∧ (Jvm.Cond.and given_1 narrow_1).before #[Value.ref b] s = true
/-- how the law ends -/
def xFlw (V : xV) : xFin := fun _ _ s _ args below meth _ Qw => ∃ b : Nat, args = #[Value.ref b] ∧ Qw = lw_Z below #[Value.ref b] s ∧ meth.sig.returnType = ret ∧ meth.locks = false ∧ V.1 = s.heap.size
theorem xG_lawend {l : Launch} {V : xV} {nm : String} {lv : List (Nat × xX)} {S : xSh} {I : xIt} {J : xJt} {P : xPt} {b : Nat × Nat} : xG l V (yL nm) room_1 (xFlw V) 405 lv [xi 1] S I J P b := by
  intro p e s m args below meth c Qw B hF H ls locs cells slots h1 h2 h3 h4 h5 h6
  obtain ⟨b0, rfl, rfl, hret, hlk, hV⟩ := hF
  have h5 : cells + b.1 ≤ 600000 := h5
  have h6 : slots + b.2 ≤ 7302250 := h6
  refine va_forget (fun q hq => ?_) ?_
  · rw [← hV]; exact h4.2.2 q hq
  · refine W.widen (k := 600000) (n := 7302250) (by omega) (by omega) ?_
    exact lw_ret B.1 B.2.1 hret hlk (d_LW_law_405 (nm := nm)).1
theorem xG_b0 {l : Launch} {V : xV} {y : xY} {R : Room} {F : xFin} {pc : Nat} {lv : List (Nat × xX)} {st : List xX} {S : xSh} {I : xIt} {J : xJt} {P : xPt} {b : Nat × Nat} (k : xG l V y R F pc lv st S I J P (0, 0)) : xG l V y R F pc lv st S I J P b := by
  intro p e s m args below meth c Qw B hF H ls locs cells slots h1 h2 h3 h4 h5 h6
  exact k p e s m args below meth c Qw B hF H ls locs cells slots h1 h2 h3 h4 (by show cells + 0 ≤ _; omega) (by show slots + 0 ≤ _; omega)
set_option maxRecDepth 20000 in
/-- the law's walk, from its entry -/
theorem law_walk {l : Launch} {V : xV} {nm : String} (hV : V.2.2.2.2.1 ≤ 2560) : xG l V (yL nm) room_1 (xFlw V) 0 [(0, xt 3)] [] [] (fun _ _ => 0) (fun _ _ => 0) (fun _ _ => none) (600000, 7302250) := by
  refine xG_new' (s := 0) (ci := 0) (N := 11) rfl d_LW_law_0 ⟨_, _, rfl, w1_14, w1_15, w1_1⟩ (by decide) (by decide) ?_
  refine xG_dup d_LW_law_3 rfl ?_
  refine xG_calln (as := []) (rest := [xq (some 0)]) d_LW_law_4 yi_DS_init w1_16 rfl rfl rfl (n_DS (T := []) (a := 0) rfl) ⟨by decide, by decide⟩ (Nat.le_of_ble_eq_true rfl) ⟨by decide, by decide⟩ (fun q S1 I1 J1 P1 hp => ?_)
  obtain ⟨rfl, rfl, hf1, hk1⟩ := hp
  refine xG_astore_n (lv' := [(1, xq (some 0)), (0, xt 3)]) d_LW_law_7 rfl (Nat.le_of_ble_eq_true rfl) rfl rfl ?_
  have hl : (([] : xSh) ++ shDS).length = 250 := by decide +kernel
  refine xG_new' (s := 250) (ci := 9) (N := 48) hl d_LW_law_8 ⟨_, _, rfl, w4_23, w4_24, w1_10⟩ (by decide) (by decide) ?_
  refine xG_dup d_LW_law_11 rfl ?_
  refine xG_calln (as := []) (rest := [xq (some 250)]) d_LW_law_12 yi_RF_init w4_25 rfl rfl rfl (n_RF hl) ⟨by decide, by decide⟩ (Nat.le_of_ble_eq_true rfl) ⟨by decide, by decide⟩ (fun q S2 I2 J2 P2 hp => ?_)
  obtain ⟨rfl, rfl, hf2, hk2⟩ := hp
  refine xG_astore_n (lv' := [(2, xq (some 250)), (1, xq (some 0)), (0, xt 3)]) d_LW_law_15 rfl (Nat.le_of_ble_eq_true rfl) rfl rfl ?_
  refine xG_iconst (v := 0) d_LW_law_16 rfl ?_
  refine xG_istore_n (lv' := [(3, xi (nI 0)), (2, xq (some 250)), (1, xq (some 0)), (0, xt 3)]) d_LW_law_17 rfl (Nat.le_of_ble_eq_true rfl) rfl ?_
  rw [xS0_is]
  refine xG_b0 ?_
  have hst := st_ok (J2 := J2) hk1 hk2 hf2
  refine law_loop (l := l) (V := V) (Q := (nm, xFlw V)) hV (fun v I J P => ?_) V.2.2.2.2.1 0 S00 I2 J2 P2 (by omega) (by decide) hst.1 hst.2 S00_ok
  refine xG_iconst (v := 1) d_LW_law_404 rfl ?_
  exact xG_lawend
theorem xCl_inst {ci : Nat} {C : String} {T : u_T} {N : Nat} (h : xCl[ci]? = some (C, T, N)) : Jvm.Cond.instantiable C N ∈ xTB := by
  match ci, h with
  | 0, h => cases h; exact w1_15
  | 1, h => cases h; exact w1_23
  | 2, h => cases h; exact w1_29
  | 3, h => cases h; exact w1_112
  | 4, h => cases h; exact w1_141
  | 5, h => cases h; exact w1_148
  | 6, h => cases h; exact w1_155
  | 7, h => cases h; exact w1_214
  | 8, h => cases h; exact w1_231
  | 9, h => cases h; exact w4_24
  | n + 10, h => cases h
theorem st_K {s : State} {args : Array Value} (htb : ∀ w ∈ xTB, w.before args s = true) : ∃ D : va_G, ∀ (c : Nat) (q : vw_C), xCl[c]? = some q → u_Kn s q.1 q.2.1 q.2.2 (D.1 c) (D.2 c) := by
  have h : ∀ c : Nat, ∃ d : ClassId × (Nat → Nat), ∀ q : vw_C, xCl[c]? = some q → u_Kn s q.1 q.2.1 q.2.2 d.1 d.2 := by
    intro c
    cases hc : xCl[c]? with
    | none => exact ⟨(0, fun _ => 0), fun q hq => by cases hq⟩
    | some q =>
      obtain ⟨C, T, N⟩ := q
      obtain ⟨cC, iS, hk⟩ := u_known (C := C) (T := T) (N := N) htb (xCl_ok hc).2.2.2.1 (htb _ (xCl_inst hc))
      exact ⟨(cC, iS), fun q hq => by cases hq; exact hk⟩
  exact ⟨(fun c => (h c).choose.1, fun c => (h c).choose.2), fun c q hq => (h c).choose_spec q hq⟩
theorem st_A {s : State} {args : Array Value} (htb : ∀ w ∈ xTB, w.before args s = true) (hao : ∀ (j : Nat) (C : String), xAo[j]? = some C → va_AO C s) : ∃ cA : Nat → ClassId, ∀ (k : Nat) (ty : FieldType), xAt[k]? = some ty → ArrOfT s (cA k) ty ∧ va_RA s (cA k) ty := by
  have pr : ∀ ty, Jvm.Cond.arrayClass ty ∈ xTB → ∃ cA : ClassId, ArrOfT s cA ty ∧ s.vm.findClass ("[" ++ ty.toString) = some cA := by
    intro ty hw
    obtain ⟨c, k, comp, h1, h2, h3⟩ := Cond.arrayClass_spec (htb _ hw)
    exact ⟨c, fun N z => ⟨(fun k h => by cases h), k, h2, comp, h3⟩, h1⟩
  have ob : ∀ C, va_AO C s → ∃ cA : ClassId, ArrOfT s cA (.object C) ∧ va_RA s cA (.object C) := by
    intro C h
    obtain ⟨comp, c, k, h1, h2, h3, h4, h5⟩ := Cond.arrayOver_spec h
    exact ⟨c, fun N z => ⟨(fun k h => by cases h), k, h3, comp, h4⟩, k, comp, h3, h4, h1, h5⟩
  obtain ⟨c0, a0, b0⟩ := pr .int w1_56
  obtain ⟨c1, a1, b1⟩ := pr .long w1_57
  obtain ⟨c2, a2, b2⟩ := ob _ (hao 0 _ rfl)
  obtain ⟨c3, a3, b3⟩ := ob _ (hao 1 _ rfl)
  refine ⟨fun k => match k with | 0 => c0 | 1 => c1 | 2 => c2 | _ => c3, fun k ty h => ?_⟩
  match k, h with
  | 0, h => cases h; exact ⟨a0, b0⟩
  | 1, h => cases h; exact ⟨a1, b1⟩
  | 2, h => cases h; exact ⟨a2, b2⟩
  | 3, h => cases h; exact ⟨a3, b3⟩
  | n + 4, h => cases h
-- ===== YOUR PART BEGINS =====
/-- YOUR PART: from the entry, for every script of at most 2560 ints, the law comes to its end with true -/
theorem whole_start {p : Program} {e : Env} {s : State} {m : MethodId} {below : List Frame} {meth : Method} {c : Code} (l : Launch) {b L : Nat} {xs : Nat → Int32} (hL : L ≤ 2560) (C0 : lw_At p s m meth c b L xs) : W p l e room_1 s m #[Value.ref b] below meth c s.heap [] 0 0 (lw_Z below #[Value.ref b] s) (entryFrame m ([Value.ref b] : List Value).toArray 4) := by
  obtain ⟨hx, hcode, hret, hml, hown, hts, hX, hbl, hlk, hgv⟩ := C0
  have htb : ∀ w ∈ xTB, w.before #[Value.ref b] s = true := fun w hw => hts w (List.mem_filter.mp hw).1
  have hs := flat_of_before _ hgv
  have hN1 : ∀ (j : Nat) (q : String × Nat × String × String × String × String), xNf1[j]? = some q → va_Nw (.fieldLinkNest q.1 q.2.1 q.2.2.1 q.2.2.2.1 q.2.2.2.2.1 q.2.2.2.2.2) s := by
    intro j q hj
    match j, hj with
    | 0, hj => cases hj; exact va_Nw.of rfl (hts _ (by decide +kernel))
    | 1, hj => cases hj; exact va_Nw.of rfl (hts _ (by decide +kernel))
    | 2, hj => cases hj; exact va_Nw.of rfl (hts _ (by decide +kernel))
    | n + 3, hj => cases hj
  have hN2 : ∀ (j : Nat) (q : String × Nat × MethodName × String), xNm1[j]? = some q → va_Nw (.methodLinkNest q.1 q.2.1 q.2.2.1 q.2.2.2) s := by
    intro j q hj
    match j, hj with
    | 0, hj => cases hj; exact va_Nw.of rfl (hts _ (by decide +kernel))
    | 1, hj => cases hj; exact va_Nw.of rfl (hts _ (by decide +kernel))
    | 2, hj => cases hj; exact va_Nw.of rfl (hts _ (by decide +kernel))
    | 3, hj => cases hj; exact va_Nw.of rfl (hts _ (by decide +kernel))
    | 4, hj => cases hj; exact va_Nw.of rfl (hts _ (by decide +kernel))
    | n + 5, hj => cases hj
  have hN3 : ∀ (j : Nat) (C : String), xAo[j]? = some C → va_AO C s := by
    intro j C hj
    match j, hj with
    | 0, hj => cases hj; exact va_AO.of (hts _ (by decide +kernel))
    | 1, hj => cases hj; exact va_AO.of (hts _ (by decide +kernel))
    | n + 2, hj => cases hj
  obtain ⟨D, hD⟩ := st_K htb
  obtain ⟨cA, hcA⟩ := st_A htb hN3
  have hA : ∀ a : Nat, a < s.heap.size → ¬ s.heap.size ≤ a := fun a h => by omega
  obtain ⟨t0, ev0, T0⟩ := va_Tof (A := fun q => s.heap.size ≤ q) (tm := .static "DirectorySession" "TYPE_LETTERS" "[C") (ty := .char) (N := 5) (f := fun j => .int (xs0 j)) (by decide) (hs _ (by decide +kernel)) (va_eqt (hs _ (by decide +kernel))) (fun j hj => va_eqt (hs _ ((by decide +kernel : ∀ j : Nat, j < 5 → Cond.eq (.elem (.static "DirectorySession" "TYPE_LETTERS" "[C") (.int (Int32.ofNat j))) (.int (xs0 j)) ∈ _) j hj))) hA
  obtain ⟨t1, ev1, T1⟩ := va_Tof (A := fun q => s.heap.size ≤ q) (tm := .static "DirectorySession" "MOST_OF_TYPE" "[I") (ty := .int) (N := 5) (f := fun j => .int (xs1 j)) (by decide) (hs _ (by decide +kernel)) (va_eqt (hs _ (by decide +kernel))) (fun j hj => va_eqt (hs _ ((by decide +kernel : ∀ j : Nat, j < 5 → Cond.eq (.elem (.static "DirectorySession" "MOST_OF_TYPE" "[I") (.int (Int32.ofNat j))) (.int (xs1 j)) ∈ _) j hj))) hA
  obtain ⟨t2, ev2, T2⟩ := va_Tof (A := fun q => s.heap.size ≤ q) (tm := .static "DirectorySession$Answer" "NOTICE" "[I") (ty := .int) (N := 14) (f := fun j => .int (xs2 j)) (by decide) (hs _ (by decide +kernel)) (va_eqt (hs _ (by decide +kernel))) (fun j hj => va_eqt (hs _ ((by decide +kernel : ∀ j : Nat, j < 14 → Cond.eq (.elem (.static "DirectorySession$Answer" "NOTICE" "[I") (.int (Int32.ofNat j))) (.int (xs2 j)) ∈ _) j hj))) hA
  have Z0 : va_Z "DirectorySession" "TYPE_LETTERS" "[C" (.ref t0) (fun q => s.heap.size ≤ q) s s.heap := va_Zof (hts _ (by decide +kernel)) (hts _ (by decide +kernel)) ev0 hA
  have Z1 : va_Z "DirectorySession" "MOST_OF_TYPE" "[I" (.ref t1) (fun q => s.heap.size ≤ q) s s.heap := va_Zof (hts _ (by decide +kernel)) (hts _ (by decide +kernel)) ev1 hA
  have Z2 : va_Z "DirectorySession$Answer" "NOTICE" "[I" (.ref t2) (fun q => s.heap.size ≤ q) s s.heap := va_Zof (hts _ (by decide +kernel)) (hts _ (by decide +kernel)) ev2 hA
  have T3 : va_T .int b L (fun k => .int (xs k)) (fun q => s.heap.size ≤ q) s s.heap := by
    obtain ⟨scr, g1, g2, g3, g4, g5⟩ := hX
    exact ⟨scr, g1, g2, g3, Nat.le_of_eq g4.symm, congrArg Int32.ofNat g4, g5, hA b hbl⟩
  let V : xV := (s.heap.size, D, cA, fun j => match j with | 0 => t0 | 1 => t1 | 2 => t2 | _ => b, L, xs)
  have hK : va_K V.2.1 xCl (xtys V) s := by
    refine ⟨hD, fun k q hk => ?_⟩
    simp only [xtys, List.getElem?_mapIdx, Option.map_eq_some_iff] at hk
    obtain ⟨ty, h1, rfl⟩ := hk
    exact hcA k ty h1
  have hZ : xZ V s s.heap := by
    refine ⟨fun j q hj => ?_, fun j hj => ?_⟩
    · match j, hj with
      | 0, hj => cases hj; exact Z0
      | 1, hj => cases hj; exact Z1
      | 2, hj => cases hj; exact Z2
      | n + 3, hj => cases hj
    · match j, hj with
      | 0, _ => exact T0
      | 1, _ => exact T1
      | 2, _ => exact T2
      | 3, _ => exact T3
      | n + 4, hj => exact absurd hj (by omega)
  have hl := lv_entry ([xt 3].map (xv V)) (n := 4) (by rw [xSl]; decide)
  rw [xl_args] at hl
  rw [lg_entry_eq]
  exact law_walk (l := l) (V := V) (nm := meth.name) hL p e s m _ below meth c _ ⟨hx, hcode, hml, htb, hown, rfl, hK, hZ, Nat.le_refl _, hN1, hN2, hN3⟩ ⟨b, rfl, rfl, hret, hlk, rfl⟩ s.heap _ [] 0 0 hl (fun k q hk => by cases hk) rfl va_S.rf (by decide) (by decide)
-- ===== YOUR PART ENDS =====
set_option maxHeartbeats 4000000 in
theorem lw_walk (l : Launch) (b : Addr) (xs : List Int32) : MetFree l x (headSpec (Jvm.Cond.code x code maxLocals ret :: tables_1) room_1) (lw_P b xs) (fun _ _ _ _ _ => True) lw_Q := by
  refine MetFree.of_bodyS (code := code) (maxLocals := maxLocals) (ret := ret) (by decide) ?_ ?_
  · intro args s m h hn
    obtain ⟨meth, c, h1, h2, h3, h4, h5, h6, -, -⟩ := Cond.code_spec hn (atoms_spec (ws := Jvm.Cond.code x code maxLocals ret :: tables_1) h _ List.mem_cons_self)
    exact ⟨meth, c, h1, h2, h3, h4, h5, h6⟩
  · intro p e s m args below meth c s₁ B hml0 hP _
    obtain ⟨rfl, hx, hbd, hgv⟩ := hP
    obtain ⟨scr, harrAt, hlist, hof, hsmall⟩ := hx
    obtain ⟨hcb, hkn, -, -⟩ := State.arrayAt?_spec harrAt
    have hown : s.vm.findClass R_law = some m.cls := findClass_of_methodNamed B.named
    have hts0 : ∀ c ∈ (Jvm.Cond.code x code maxLocals ret :: tables_1), c.before #[Value.ref b] s = true := atoms_spec (ws := Jvm.Cond.code x code maxLocals ret :: tables_1) B.pre
    have hts : ∀ w ∈ lw_tbl, w.before #[Value.ref b] s = true := k2_hts_sels lw_privs (fun w hw => hts0 w (List.mem_cons_of_mem _ hw)) lw_privs_ok
    have hml : c.maxLocals = 4 := B.maxLocals_eq (hts0 _ List.mem_cons_self)
    have X₀ : Stand p l e room_1 s m #[Value.ref b] below meth c s₁ [] 0 0 := Stand.of_body B
    have hh0 : s₁.heap = s.heap := by rw [B.state]; rfl
    have hsz : scr.slots.size = xs.length := by rw [← Array.length_toList, hlist, List.length_map]
    have hval : ∀ j : Nat, j < xs.length → scr.slots[j]? = some (.int (xs.getD j 0)) := fun j hj => by
      rw [← Array.getElem?_toList, hlist]
      simp [hj]
    have hbl : b < s.heap.size := (Array.getElem?_eq_some_iff.mp hcb).1
    have hX : va_X b xs.length (fun j => xs.getD j 0) s s.heap := ⟨scr, hcb, hof, hkn, hsz, hval⟩
    have K : W p l e room_1 s m #[Value.ref b] below meth c s₁.heap [] 0 0 (lw_Z below #[Value.ref b] s) (entryFrame m ([Value.ref b] : List Value).toArray 4) := by
      rw [hh0]
      exact whole_start l hbd ⟨B.exec, B.bytes, B.returns, hml, hown, hts, hX, hbl, B.notSynchronized, hgv⟩
    obtain ⟨t, a1, o, b1, b2, b3⟩ := K s₁ rfl X₀
    exact ⟨t, o, a1, b1, b2, b3⟩
theorem lw_pre_spec {args : Array Value} {s : State} (h : (Jvm.Cond.and given_1 narrow_1).before args s = true) (hr : rest_1_c.before args s = true) : ∃ (b : Addr) (xs : List Int32), lw_P b xs args s := by
  have hs := flat_of_before _ h
  have hq := flat_of_before _ hr
  have hc : (Cond.count 1).before args s = true := hs _ (by decide +kernel)
  have harr : (Cond.arrayOf (.arg 0) .int).before args s = true := hs _ (by decide +kernel)
  have hle : (Cond.le (.length (.arg 0)) (.int 2560)).before args s = true := hs _ (by decide +kernel)
  have hlen : (Cond.isInt (.length (.arg 0))).before args s = true := hq _ (by decide +kernel)
  have hall : (Cond.all (.arg 0) (.isInt (.elem (.arg 0) (.index 0)))).before args s = true := hq _ (by decide +kernel)
  obtain ⟨b, xs, hb, hx⟩ := State.ints_of_pre rfl harr hlen hall
  have hsm : xs.length < 2 ^ 31 := hx.choose_spec.2.2.2
  have hev : (Term.length (.arg 0)).eval args s none [] s = some (.int xs.length.toInt32) := hx.length_eval hb
  have hv := Cond.le_ints hev (show (Term.int 2560).eval args s none [] s = some (.int 2560) from rfl)
  have hd : xs.length.toInt32 ≤ 2560 := by
    simpa [Cond.before, Cond.holds, hv] using hle
  have hN : xs.length ≤ 2560 := (Int32.ofNat_le_ofNat hsm (by decide)).mp (show Int32.ofNat xs.length ≤ Int32.ofNat 2560 from hd)
  exact ⟨b, xs, Cond.one_arg hc (show args[0]? = some (.ref b) from hb), hx, hN, h⟩
theorem lw_comes (l : Launch) : Comes l x (Jvm.Cond.code x code maxLocals ret :: tables_1) room_1 (fun tb e args s => Calls_1 tb e args s ∧ rest_1 tb e args s ∧ Pre_1 tb e args s)
    (fun _ _ args s o t => lw_Q args s o t) := by
  intro p e ha hc hk s m args below hf hfit hheap happ hpre
  obtain ⟨b, xs, hP⟩ := lw_pre_spec hpre.2.2 hpre.2.1
  obtain ⟨k, o, h1, h2, h3, hQ⟩ := lw_walk l b xs p e ha hc hk s m args below hf ((Spec.applies_iff_loose hf).mp happ).1 hP trivial
  exact ⟨k, o, h1, h2, h3, hQ⟩
theorem lw_frame {s t : State} {o : Outcome} {args : Array Value} (h : Framed s o t [] 600000 7302250) :
    Framed s o t (fieldLocs frame_1_writes args s ++ arrayLocs frame_1_arrays args s ++ staticLocs frame_1_statics s) 600000 7302250 := h
theorem lw_limb (L : Cond) (hL : ∀ (args : Array Value) (s t : State), L.after args s (.returned (some (.int 1))) t = true) :
    ArmFor flags0 classFile x code maxLocals ret World_1 tables_1 room_1 Calls_1 rest_1 Pre_1
      (fun tb e a s o t => postC L tb e a s o t ∧ Framed s o t (fieldLocs frame_1_writes a s ++ arrayLocs frame_1_arrays a s ++ staticLocs frame_1_statics s) 600000 7302250) := by
  intro l _ _ _ p e ha hc hk s m args below hf hfit hheap happ hpre
  obtain ⟨k, o, h1, h2, h3, rfl, hF⟩ := lw_comes l p e ha hc hk s m args below hf hfit hheap happ hpre
  exact ⟨k, _, h1, h2, h3, hL args s _, lw_frame hF⟩
theorem i_vc : Claimed_1_1 ∧ Claimed_1_2 := ⟨lw_limb limb_1_1 (fun args s t => by simp [limb_1_1, Cond.after, Cond.holds, Cond.value]), lw_limb limb_1_2 (fun args s t => Cond.after_iff.mpr (by
  first | (rw [show limb_1_2 = Cond.eq .result (.int 1) from rfl, Cond.eq_ints (x := 1) (y := 1) rfl rfl]; simp; done) | (simp [limb_1_2, Cond.value, Term.eval]; done)))⟩

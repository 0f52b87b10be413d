/-! the class's version, limit, choice and flag -/
theorem QN_op {m : Nat → Nat} {p e : Nat} {I I' : xIt} {J J' : xJt} {P P' : xPt} {r : Int32} (h : QN m p e I J P r I' J' P') : J = J' ∧ P = P' ∧ xsm (dO 1 [1] []) I I' ∧ xOr (ig m p e) r (-65536) (fun q => q.1) (fun q => I' 1 1 = nI q.2) := h
theorem QB_op {m : Nat → Nat} {w p e : Nat} {I I' : xIt} {J J' : xJt} {P P' : xPt} {r : Int32} (h : QB m w p e I J P r I' J' P') : J = J' ∧ P = P' ∧ xsm (dO 1 [1] []) I I' ∧ xOr (sg m w p e) r (-1) (fun q => nI q.1) (fun q => I' 1 1 = nI q.2) := h
set_option maxRecDepth 20000 in
theorem c_RQ_readVersion {l : Launch} {V : xV} {I : xIt} {J : xJt} {P : xPt} {m : Nat → Nat} {p e : Nat} (hL : xL P) (hm : xMs I 2 m e) (he : e ≤ 153) (hp : p ≤ e) (hat : I 1 1 = nI p) : xMet l V y_RQ_readVersion 3 0 0 [xq (some 1), xi (nI e)] xS0 I J P (xPi (fun r I' J' P' => J = J' ∧ P = P' ∧ xsm (dO 1 [1, 4] []) I I' ∧ xOp (ig m p e) r (fun q => I' 1 4 = q.1 ∧ I' 1 1 = nI q.2))) := by
  refine e_RQ_readVersion (b_RQ_readVersion_0 hL ⟨QN m p e I J P, c_RQ_readNumber hL hm he hp hat, ?_⟩)
  intro r I1 J1 P1 hq
  obtain ⟨rfl, rfl, s1, o⟩ := QN_op hq
  have t1 := (s1.O (ks' := [1, 4]) (as' := []) rfl rfl).put (a := 1) (k := 4) (v := r) rfl
  cases h : ig m p e with
  | none =>
    rw [h] at o
    have o : r = -65536 := o
    exact ⟨fun _ => ⟨rfl, rfl, t1, xOp.n rfl rfl⟩, fun c => absurd o c⟩
  | some q =>
    have hne := ig_ne (fun j hj => (hm j hj).2) h
    rw [h] at o
    obtain ⟨o1, o2⟩ := o
    have o1 : r = q.1 := o1
    refine ⟨fun c => ?_, fun _ => ⟨rfl, rfl, t1, xOp.s (q := q) rfl rfl ⟨o1, o2⟩⟩⟩
    have hz : q.1 = -65536 := o1.symm.trans c
    rw [hz] at hne
    exact absurd hne.1 (by decide)
set_option maxRecDepth 20000 in
theorem c_RQ_readLimit {l : Launch} {V : xV} {I : xIt} {J : xJt} {P : xPt} {m : Nat → Nat} {p e : Nat} (hL : xL P) (hm : xMs I 2 m e) (he : e ≤ 153) (hp : p ≤ e) (hat : I 1 1 = nI p) : xMet l V y_RQ_readLimit 3 0 0 [xq (some 1), xi (nI e)] xS0 I J P (xPi (fun r I' J' P' => J = J' ∧ P = P' ∧ xsm (dO 1 [1, 4] []) I I' ∧ xOp ((ig m p e).bind fun q => if 0 ≤ q.1 then some q else none) r (fun q => I' 1 4 = q.1 ∧ I' 1 1 = nI q.2))) := by
  refine e_RQ_readLimit (b_RQ_readLimit_0 hL ⟨QN m p e I J P, c_RQ_readNumber hL hm he hp hat, ?_⟩)
  intro r I1 J1 P1 hq
  obtain ⟨rfl, rfl, s1, o⟩ := QN_op hq
  have t1 := (s1.O (ks' := [1, 4]) (as' := []) rfl rfl).put (a := 1) (k := 4) (v := r) rfl
  cases h : ig m p e with
  | none =>
    rw [h] at o
    have o : r = -65536 := o
    exact ⟨fun _ => ⟨rfl, rfl, t1, xOp.n rfl rfl⟩, fun c => absurd (by rw [o]; decide) c⟩
  | some q =>
    rw [h] at o
    obtain ⟨o1, o2⟩ := o
    have o1 : r = q.1 := o1
    refine ⟨fun c => ⟨rfl, rfl, t1, xOp.n ?_ rfl⟩, fun c => ⟨rfl, rfl, t1, xOp.s (q := q) ?_ rfl ⟨o1, o2⟩⟩⟩
    · simp only [Option.bind_some]
      rw [if_neg (by rw [← o1]; exact Int32.not_le.mpr c)]
    · simp only [Option.bind_some]
      rw [if_pos (by rw [← o1]; exact Int32.not_lt.mp c)]
set_option maxRecDepth 20000 in
theorem c_RQ_readChoice {l : Launch} {V : xV} {I : xIt} {J : xJt} {P : xPt} {m : Nat → Nat} {p e : Nat} (hL : xL P) (hm : xMs I 2 m e) (he : e ≤ 153) (hp : p ≤ e) (hat : I 1 1 = nI p) : xMet l V y_RQ_readChoice 3 0 0 [xq (some 1), xi (nI e)] xS0 I J P (xPi (fun r I' J' P' => J = J' ∧ P = P' ∧ xsm (dO 1 [1, 5] []) I I' ∧ xOp ((sg m 10 p e).bind fun q => if q.1 ≤ 2 then some q else none) r (fun q => I' 1 5 = nI q.1 ∧ I' 1 1 = nI q.2))) := by
  refine e_RQ_readChoice (b_RQ_readChoice_0 hL ⟨QB m 10 p e I J P, c_RQ_readByte hL hm he hp (by decide) hat, ?_⟩)
  intro r I1 J1 P1 hq
  obtain ⟨rfl, rfl, s1, o⟩ := QB_op hq
  have t1 := (s1.O (ks' := [1, 5]) (as' := []) rfl rfl).put (a := 1) (k := 5) (v := r) rfl
  cases h : sg m 10 p e with
  | none =>
    rw [h] at o
    have o : r = -1 := o
    exact ⟨fun _ => ⟨rfl, rfl, t1, xOp.n rfl rfl⟩, fun c => absurd (by rw [o]; decide) c⟩
  | some q =>
    have b := sg_bd (fun j hj => (hm j hj).2) h
    rw [h] at o
    obtain ⟨o1, o2⟩ := o
    have o1 : r = nI q.1 := o1
    subst o1
    refine ⟨fun c => absurd c (nI_pos (by omega)), fun _ => pk_lt 2 q.1 (fun c => ⟨rfl, rfl, t1, xOp.n ?_ rfl⟩) (fun c => ⟨rfl, rfl, t1, xOp.s (q := q) ?_ rfl ⟨rfl, o2⟩⟩)⟩
    · simp only [Option.bind_some]
      rw [if_neg (by omega)]
    · simp only [Option.bind_some]
      rw [if_pos (by omega)]
set_option maxRecDepth 20000 in
theorem c_RQ_readFlag {l : Launch} {V : xV} {I : xIt} {J : xJt} {P : xPt} {m : Nat → Nat} {p e : Nat} (hL : xL P) (hm : xMs I 2 m e) (he : e ≤ 153) (hp : p ≤ e) (hat : I 1 1 = nI p) : xMet l V y_RQ_readFlag 3 0 0 [xq (some 1), xi (nI e)] xS0 I J P (xPi (fun r I' J' P' => J = J' ∧ P = P' ∧ xsm (dO 1 [1, 6] []) I I' ∧ xOp (sg m 1 p e) r (fun q => I' 1 6 = (if q.1 = 0 then 0 else 1) ∧ I' 1 1 = nI q.2))) := by
  refine e_RQ_readFlag (b_RQ_readFlag_0 hL ⟨QB m 1 p e I J P, c_RQ_readByte hL hm he hp (by decide) hat, ?_⟩)
  intro r I1 J1 P1 hq
  obtain ⟨rfl, rfl, s1, o⟩ := QB_op hq
  have t1 := s1.O (ks' := [1, 6]) (as' := []) rfl rfl
  cases h : sg m 1 p e with
  | none =>
    rw [h] at o
    have o : r = -1 := o
    subst o
    exact ⟨fun _ => ⟨fun _ => ⟨rfl, rfl, t1.put rfl, xOp.n rfl rfl⟩, fun c => absurd (by decide) c⟩, fun c => absurd (by decide) c⟩
  | some q =>
    have b := sg_bd (fun j hj => (hm j hj).2) h
    rw [h] at o
    obtain ⟨o1, o2⟩ := o
    have o1 : r = nI q.1 := o1
    subst o1
    refine pk_le q.1 0 (fun c => ⟨fun z => absurd z (nI_pos (by omega)), fun _ => ⟨rfl, rfl, t1.put rfl, xOp.s (q := q) rfl rfl ⟨?_, o2⟩⟩⟩) (fun c => ⟨fun z => absurd z (nI_pos (by omega)), fun _ => ⟨rfl, rfl, t1.put rfl, xOp.s (q := q) rfl rfl ⟨?_, o2⟩⟩⟩)
    · rw [if_pos (by omega)]
      rfl
    · rw [if_neg (by omega)]
      rfl

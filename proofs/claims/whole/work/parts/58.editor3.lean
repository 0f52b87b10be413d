/-! the editor: modify, rename -/
/-- what modify makes of the entry x -/
def mdm (m : Nat → Nat) (c : Nat) (q : Nat × Nat) (L : List (Nat × Nat)) (x : Ent) : Nat ⊕ Ent := match tyx m q with
  | none => .inl 17
  | some t => match rdv m t L [] with
    | .inl k => .inl k
    | .inr S => match chg c t (x.1 t) S with
      | .inl k => .inl k
      | .inr R => if hs (setA x.1 t R x.2.1) x.2.2.1 = true then (if stru (setA x.1 t R 0) = stru (x.1 0) then (if fitb (setA x.1 t R) = true then .inr (setA x.1 t R, x.2) else .inl 65) else .inl 69) else .inl 67
def rnA (x : Ent) (p : Nat × List Nat × List Nat) (g : Bool) : Nat → List Vl := if g = true ∧ ¬ (x.2.1 = p.1 ∧ x.2.2.1 = p.2.2) then setA x.1 x.2.1 ((x.1 x.2.1).filter (fun y => !(y.2 == x.2.2.1))) else x.1
def rnB (A : Nat → List Vl) (p : Nat × List Nat × List Nat) : List Vl := if hs (A p.1) p.2.2 = true then A p.1 else A p.1 ++ [p.2]
/-- what rename makes of the entry x at place e -/
def rnm (D : List Ent) (e : Nat) (x : Ent) (p : Nat × List Nat × List Nat) (g : Bool) : Nat ⊕ Ent :=
  if chd D x.2.2.2 p.1 p.2.2 = none ∨ chd D x.2.2.2 p.1 p.2.2 = some e then
    (if (rnB (rnA x p g) p).length ≤ mo p.1 then (if fitb (setA (rnA x p g) p.1 (rnB (rnA x p g) p)) = true then .inr (setA (rnA x p g) p.1 (rnB (rnA x p g) p), p.1, p.2.2, x.2.2.2) else .inl 65) else .inl 19)
  else .inl 68
/-- the tree in which the entry at e is what came out -/
def put1 (D : List Ent) (e : Nat) (r : Nat ⊕ Ent) : Nat ⊕ List Ent := match r with
  | .inl c => .inl c
  | .inr x => .inr (D.set e x)
theorem chg_ok {c t : Nat} {R S R' : List Vl} (hR : wfr t R) (vS : ∀ v ∈ S, vk t v) (nS : (S.map (fun v => v.2)).Nodup) (h : chg c t R S = .inr R') : wfr t R' := by
  unfold chg at h
  by_cases h1 : c = 1
  · rw [if_pos h1] at h
    by_cases h2 : R.length = 0
    · rw [if_pos h2] at h; cases h
    rw [if_neg h2] at h
    by_cases h3 : S.all (fun y => hs R y.2) = true
    · rw [if_pos h3] at h
      by_cases h4 : S.length = 0
      · rw [if_pos h4] at h; cases h
        exact ⟨fun v hv => (by cases hv), by simp, by simp⟩
      · rw [if_neg h4] at h; cases h
        refine ⟨fun v hv => hR.1 v (List.mem_filter.mp hv).1, Nat.le_trans (List.length_filter_le _ _) hR.2.1, ?_⟩
        exact List.Nodup.sublist (List.Sublist.map _ List.filter_sublist) hR.2.2
    · rw [if_neg h3] at h; cases h
  rw [if_neg h1] at h
  by_cases h2 : c = 0
  · rw [if_pos h2] at h
    by_cases h3 : S.length = 0
    · rw [if_pos h3] at h; cases h
    rw [if_neg h3] at h
    by_cases h4 : S.any (fun y => hs R y.2) = true
    · rw [if_pos h4] at h; cases h
    rw [if_neg h4] at h
    by_cases h5 : R.length + S.length ≤ mo t
    · rw [if_pos h5] at h; cases h
      refine ⟨fun v hv => (List.mem_append.mp hv).elim (hR.1 v) (vS v), by simpa using h5, ?_⟩
      rw [List.map_append, List.nodup_append]
      refine ⟨hR.2.2, nS, fun a ha b hb hab => h4 ?_⟩
      subst hab
      obtain ⟨y, hy, rfl⟩ := List.mem_map.mp hb
      exact List.any_eq_true.mpr ⟨y, hy, hs_mem.mpr ha⟩
    · rw [if_neg h5] at h; cases h
  rw [if_neg h2] at h
  by_cases h5 : S.length ≤ mo t
  · rw [if_pos h5] at h; cases h
    exact ⟨vS, h5, nS⟩
  · rw [if_neg h5] at h; cases h
theorem chg_code {c t k : Nat} {R S : List Vl} (h : chg c t R S = .inl k) : 1 ≤ k ∧ k < 100 := by
  unfold chg at h
  repeat' split at h
  all_goals first
    | cases h; omega
    | cases h
section XED3
variable {l : Launch} {V : xV} {I : xIt} {J : xJt} {P : xPt} {o : Nat → Nat} {D : List Ent} {m : Nat → Nat} {e : Nat}
/-- an entry of the tree is written anew from the candidate -/
theorem xTr.put {I' : xIt} {J' : xJt} {P1 : xPt} {e0 : Nat} {x x' : Ent} (h : xTr I J P1 o D) (he0 : D[e0]? = some x) (hS : xSe (o e0) I I' J J') (hE : xEn I' J' (xu P1 (o e0) 1 (x'.2.2.2.map o)) (o e0) (fun t => pkr (x'.1 t)) x'.2.1 (pkd x'.2.2.1) (x'.2.2.2.map o)) : xTr I' J' (xu P1 (o e0) 1 (x'.2.2.2.map o)) o (D.set e0 x') := by
  have h12 := h.2.1
  have hl0 := (List.getElem?_eq_some_iff.mp he0).1
  have ho0 := h.2.2.1 e0 (by omega)
  have h10 := ent0 _ (x_lt0 ho0.2.1) ho0.2.1
  refine ⟨(hS.1 21 1 (by omega)).trans (by rw [List.length_set]; exact h.1), by rw [List.length_set]; exact h12, fun i hi => ⟨(xu_other (by omega)).trans (h.2.2.1 i hi).1, (h.2.2.1 i hi).2⟩, h.2.2.2.1, fun i y hy => ?_⟩
  by_cases hi : i = e0
  · subst hi
    rw [List.getElem?_set_self hl0] at hy
    cases hy
    exact hE
  · rw [List.getElem?_set_ne (Ne.symm hi)] at hy
    have hl := (List.getElem?_eq_some_iff.mp hy).1
    have ho := h.2.2.1 i (by omega)
    have hne : o i ≠ o e0 := fun z => hi (h.2.2.2.1 i e0 (by omega) (by omega) z)
    have hf := ent_far ho.2.1 ho0.2.1 hne
    exact (h.2.2.2.2 i y hy).far (fun b k h1 h2 => hS.1 b k (by omega)) (fun b k h1 h2 => hS.2 b k (by omega)) (xu_other (by omega))
theorem xEn_set {x t : Nat} {A : Nat → List Vl} {R : List Vl} {nt : Nat} {nv : Int64} {ab : Option Nat} {I' : xIt} {J' : xJt} (hL : xL P) (hx : xS0[x]? = some (5, 0)) (ht : t < 5) (h : xEn I J P x (fun t => pkr (A t)) nt nv ab) (hs : xSr (x + 2 + 3 * t) I I' J J') (hr : xRw I' J' (x + 2 + 3 * t) (pkr R)) : xEn I' J' P x (fun i => pkr (setA A t R i)) nt nv ab := by
  refine ⟨fun i hi => ?_, (hs.1 x 2 (by omega)).trans h.2.1, h.2.2.1, (hs.2 x 3 (by omega) (by omega)).trans h.2.2.2.1, h.2.2.2.2⟩
  by_cases hit : i = t
  · subst hit
    show xRw I' J' (x + 2 + 3 * i) (pkr (setA A i R i))
    rw [setA_at]; exact hr
  · show xRw I' J' (x + 2 + 3 * i) (pkr (setA A t R i))
    rw [setA_ne hit]; exact (h.1 i hi).far (by omega) (en_row hL hx ht).2 (en_row hL hx hi).2 hs
set_option maxRecDepth 20000 in
theorem c_ED_modify {c e0 : Nat} {x : Ent} {q0 qt : Nat × Nat} {L : List (Nat × Nat)} (hL : xL P) (hm : xMs I 2 m e) (he : e ≤ 153) (hTx : xTx I (q0 :: qt :: L)) (hC : xAc I [L.length]) (hc : I 1 5 = nI c) (hc2 : c ≤ 2) (hl : L.length ≤ 8) (hqt : qt.1 ≤ qt.2 ∧ qt.2 ≤ e) (hq : ∀ q ∈ L, q.1 ≤ q.2 ∧ q.2 ≤ e) (hT : xTr I J P o D) (hW : wf D) (he0 : D[e0]? = some x) : xMet l V y_ED_modify 5 0 0 [xq (some 227), xq (some 1), xq (some (o e0))] xS0 I J P (xPi (Qed o D (put1 D e0 (mdm m c qt L x)) I J P)) := by
  have h12 := hT.2.1
  have hl0 := (List.getElem?_eq_some_iff.mp he0).1
  have ho0 := hT.2.2.1 e0 (by omega)
  have h10 := ent0 _ (x_lt0 ho0.2.1) ho0.2.1
  have hw := (hW e0 x he0).1
  have hTl : (q0 :: qt :: L).length ≤ 75 := by simp; omega
  refine e_ED_modify (b_ED_modify_0 hL ⟨1, rfl, s0_1, _, c_RQ_typeOf (k := 1) hL hm he hTx rfl hTl hqt, ?_⟩)
  rintro w I3 _ _ ⟨rfl, rfl, rfl, rfl⟩
  cases hty : tyx m qt with
  | none =>
    refine ⟨fun z => absurd rfl z, fun _ => ⟨hL, xSd.rfl, ?_⟩⟩
    rw [mdm, hty]
    exact ⟨rfl, hT⟩
  | some t =>
    have ht := tyx_5 hty
    refine ⟨fun _ => ⟨_, c_VR_clear hL s0_245, ?_⟩, fun z => absurd z (nI_m1 (by omega))⟩
    rintro I3 J3 _ ⟨rfl, hs3, hr3⟩
    have hm3 : xMs I3 2 m e := hm.row (by omega) hs3
    have hTx3 : xTx I3 (q0 :: qt :: L) := hTx.row (by omega) hs3
    have hv5 : I3 (1 + 4) 0 = nI L.length := (hs3.1 5 0 (by omega)).trans (hC.2 0 _ rfl)
    rw [lp_227_1 hL, hv5, show tyo (some t) = nI t from rfl]
    refine ⟨_, c_ED_readValues (L := L) (f := 2) hL hm3 he hTx3 hTl ht s0_245 hr3 (by rw [asked_cap]; omega) (fun i q hi => ⟨by rw [Nat.add_comm]; exact hi, hq q (List.mem_of_getElem? hi)⟩) (by omega), ?_⟩
    rintro w I4 J4 _ ⟨rfl, hs4, hm4⟩
    have hs4' := hs3.trans hs4
    have hT4 : xTr I4 J4 P o D := hT.keep (fun b j h1 h2 => hs4'.1 b j (by omega)) (fun b j h1 h2 => hs4'.2 b j (by omega) (by omega)) (fun _ _ _ _ => rfl)
    have hSd4 : xSd I I4 J J4 P P := xSd.row s0_245 hs4'
    cases hrd : rdv m t L [] with
    | inl k =>
      rw [hrd] at hm4
      have hm4 : w = nI k := hm4
      subst hm4
      refine ⟨fun z => ?_, fun _ => ⟨hL, hSd4, ?_⟩⟩
      · rcases rdv_code hrd with rfl | rfl <;> exact absurd z (by decide)
      · rw [mdm, hty]
        simp only [hrd, put1]
        exact ⟨trivial, hT4⟩
    | inr S =>
      rw [hrd] at hm4
      obtain ⟨rfl, hr4⟩ := hm4
      have hok := rdv_ok (fun q hq' j hj => (hm j (by have := (hq q hq').2; omega)).2) (fun v hv => by cases hv) (by simp) hrd
      have hE4 := hT4.2.2.2.2 e0 x he0
      refine ⟨fun _ => ⟨_, c_EN_copy hL s0_228 ho0.2.1 ((ent_far ho0.2.1 s0_228 (by omega))) hE4, ?_⟩, fun z => absurd rfl z⟩
      rintro I5 J5 _ ⟨rfl, hS5, hE5⟩
      have hL5 : xL (xu P 228 1 (x.2.2.2.map o)) := xL_up hL s0_228
      have hE5 := hE5.congr (B := fun t => pkr (x.1 t)) (fun t ht => take_all (en_row hL5 s0_228 ht).2 (hw.1 t ht))
      have hSd5 : xSd I I5 J J5 P (xu P 228 1 (x.2.2.2.map o)) := hSd4.trans (xSd.en s0_228 hS5)
      have hr5 : xRw I5 J5 245 (pkr S) := ⟨(hS5.1 245 2 (by omega)).trans hr4.1, hr4.2.1, fun j z hj => ⟨(hS5.2 _ j (by omega)).trans (hr4.2.2 j z hj).1, (hS5.2 _ j (by omega)).trans (hr4.2.2 j z hj).2⟩⟩
      have hT5 : xTr I5 J5 (xu P 228 1 (x.2.2.2.map o)) o D := hT4.keep (fun b j h1 h2 => hS5.1 b j (by omega)) (fun b j h1 h2 => hS5.2 b j (by omega)) (fun b j h1 h2 => xu_other (by omega))
      have hc5 : I5 1 5 = nI c := (hSd5.1 1 5 (by omega)).trans hc
      rw [hc5]
      refine ⟨_, c_ED_change hL5 hc2 ht (hE5.1 t ht) hr5 (hw.1 t ht) hok.1, ?_⟩
      rintro w I6 J6 _ ⟨rfl, hs6, hm6⟩
      have ha6 := (en_row hL5 s0_228 ht).2
      have hSd6 : xSd I I6 J J6 P (xu P 228 1 (x.2.2.2.map o)) := hSd5.trans (xSd.row ha6 hs6)
      have hT6 : xTr I6 J6 (xu P 228 1 (x.2.2.2.map o)) o D := hT5.keep (fun b j h1 h2 => hs6.1 b j (by omega)) (fun b j h1 h2 => hs6.2 b j (by omega) (by omega)) (fun _ _ _ _ => rfl)
      cases hch : chg c t (x.1 t) S with
      | inl k =>
        rw [hch] at hm6
        have hm6 : w = nI k := hm6
        subst hm6
        have hk := chg_code hch
        refine ⟨fun z => absurd z (fun w => by have w : nI k = nI 0 := w; have := (nI_eq (by omega) (by omega)).mp w; omega), fun _ => ⟨hL5, hSd6, ?_⟩⟩
        rw [mdm, hty]
        simp only [hrd, hch, put1]
        exact ⟨trivial, hT6⟩
      | inr R =>
        rw [hch] at hm6
        obtain ⟨rfl, hr6⟩ := hm6
        have hwR := chg_ok (hw.1 t ht) hok.1 hok.2.1 hch
        have hE6 : xEn I6 J6 (xu P 228 1 (x.2.2.2.map o)) 228 (fun i => pkr (setA x.1 t R i)) x.2.1 (pkd x.2.2.1) (x.2.2.2.map o) := xEn_set hL5 s0_228 ht hE5 hs6 hr6
        have hwA : ∀ i, i < 5 → wfr i (setA x.1 t R i) := fun i hi => by
          by_cases hit : i = t
          · subst hit; rw [setA_at]; exact hwR
          · rw [setA_ne hit]; exact hw.1 i hi
        have hmd : mdm m c qt L x = if hs (setA x.1 t R x.2.1) x.2.2.1 = true then (if stru (setA x.1 t R 0) = stru (x.1 0) then (if fitb (setA x.1 t R) = true then .inr (setA x.1 t R, x.2) else .inl 65) else .inl 69) else .inl 67 := by
          rw [mdm, hty]; simp only [hrd, hch]
        have hst : ∀ R : List Vl, stru R < 4 := fun R => by unfold stru; split <;> split <;> omega
        refine ⟨fun _ => ⟨_, c_EN_hasItsNamePart hL5 s0_228 hE6, ?_⟩, fun z => absurd rfl z⟩
        rintro w I7 _ _ ⟨rfl, rfl, rfl, rfl⟩
        rw [show ((fun i => pkr (setA x.1 t R i)) x.2.1).any (fun y => y.2 == pkd x.2.2.1) = hs (setA x.1 t R x.2.1) x.2.2.1 from pkr_any hw.2.2 (hwA x.2.1 (by have := hw.2.1; omega)).1]
        rw [hmd]
        by_cases hh : hs (setA x.1 t R x.2.1) x.2.2.1 = true
        · rw [if_pos hh, if_pos hh]
          refine ⟨fun _ => ⟨_, c_EN_structuralClasses hL5 s0_228 hE6 (hwA 0 (by omega)).1, ?_⟩, fun z => absurd z (by decide)⟩
          rintro w I7 _ _ ⟨rfl, rfl, rfl, rfl⟩
          refine ⟨o e0, rfl, ho0.2.1, _, c_EN_structuralClasses hL5 ho0.2.1 (hT6.2.2.2.2 e0 x he0) (hw.1 0 (by omega)).1, ?_⟩
          rintro w I7 _ _ ⟨rfl, rfl, rfl, rfl⟩
          refine pk_eq (stru (setA x.1 t R 0)) (stru (x.1 0)) (fun z => ?_) (fun z => ⟨hL5, hSd6, by rw [if_neg z]; exact ⟨rfl, hT6⟩⟩) rfl rfl (by have := hst (setA x.1 t R 0); omega) (by have := hst (x.1 0); omega)
          rw [if_pos z]
          refine ⟨_, c_EN_fitsSchema hL5 s0_228 hE6 (hwA 0 (by omega)).1, ?_⟩
          rintro w I7 _ _ ⟨rfl, rfl, rfl, rfl⟩
          by_cases hfi : fitb (setA x.1 t R) = true
          · rw [if_pos hfi, if_pos hfi, lp_227_0 hL5]
            refine ⟨fun _ => ⟨_, c_EN_copy hL5 ho0.2.1 s0_228 ((ent_far s0_228 ho0.2.1 (by omega))) hE6, ?_⟩, fun z => absurd z (by decide)⟩
            rintro I8 J8 _ ⟨rfl, hS8, hE8⟩
            refine ⟨xL_up hL5 ho0.2.1, hSd6.trans (xSd.en ho0.2.1 hS8), rfl, ?_⟩
            exact xTr.put (x' := (setA x.1 t R, x.2)) hT6 he0 hS8 (hE8.congr (fun i hi => take_all (en_row hL5 ho0.2.1 hi).2 (hwA i hi)))
          · rw [if_neg hfi, if_neg hfi]
            exact ⟨fun z => absurd rfl z, fun _ => ⟨hL5, hSd6, rfl, hT6⟩⟩
        · rw [if_neg hh, if_neg hh]
          exact ⟨fun z => absurd rfl z, fun _ => ⟨hL5, hSd6, rfl, hT6⟩⟩
set_option maxRecDepth 20000 in
theorem c_ED_rename {e0 : Nat} {x : Ent} {p : Nat × List Nat × List Nat} {g : Bool} (hL : xL P) (hT : xTr I J P o D) (hW : wf D) (he0 : D[e0]? = some x) (hN : xNm I J 17 [p]) (hp : wfp [p]) : xMet l V y_ED_rename 4 0 0 [xq (some 227), xq (some (o e0)), xq (some 17), xi (if g = true then 1 else 0), xq (some 21)] xS0 I J P (xPi (Qed o D (put1 D e0 (rnm D e0 x p g)) I J P)) := by
  have h12 := hT.2.1
  have hl0 := (List.getElem?_eq_some_iff.mp he0).1
  have ho0 := hT.2.2.1 e0 (by omega)
  have h10 := ent0 _ (x_lt0 ho0.2.1) ho0.2.1
  have hw := (hW e0 x he0).1
  have hpp := hp.2 p (by simp)
  have hpv := po_ok hpp.2.1 hpp.2.2.1 hpp.2.2.2
  have hpt : p.1 < 5 := by omega
  have hN0 := hN.2 0 p rfl
  have hE := hT.2.2.2.2 e0 x he0
  have hmo3 : ∀ t, mo t ≤ 3 := fun t => by unfold mo; split <;> omega
  -- from the candidate's row on
  have t3 : ∀ (A : Nat → List Vl) (w8 : Option Nat) (I1 : xIt) (J1 : xJt), A = rnA x p g → xSd I I1 J J1 P (xu P 228 1 (x.2.2.2.map o)) → xTr I1 J1 (xu P 228 1 (x.2.2.2.map o)) o D → (∀ i, i < 5 → wfr i (A i)) → xEn I1 J1 (xu P 228 1 (x.2.2.2.map o)) 228 (fun i => pkr (A i)) x.2.1 (pkd x.2.2.1) (x.2.2.2.map o) → chd D x.2.2.2 p.1 p.2.2 = none ∨ chd D x.2.2.2 p.1 p.2.2 = some e0 → G_ED_rename l V (Qed o D (put1 D e0 (rnm D e0 x p g)) I J P) 94 [(0, xq (some 227)), (1, xq (some (o e0))), (2, xq (some 17)), (3, xi (if g = true then 1 else 0)), (4, xq (some 21)), (5, xi (nI p.1)), (6, xj (pkd p.2.2)), (8, xq w8)] [] I1 J1 (xu P 228 1 (x.2.2.2.map o)) := by
    intro A w8 I1 J1 hAe hSd hT1 hwA hE1 hch
    have hL5 : xL (xu P 228 1 (x.2.2.2.map o)) := xL_up hL s0_228
    have hro := en_row hL5 s0_228 hpt
    have hrn : rnm D e0 x p g = if (rnB A p).length ≤ mo p.1 then (if fitb (setA A p.1 (rnB A p)) = true then .inr (setA A p.1 (rnB A p), p.1, p.2.2, x.2.2.2) else .inl 65) else .inl 19 := by
      rw [rnm, if_pos hch, ← hAe]
    have hAl := (hwA p.1 hpt).2.1
    have hmo := hmo3 p.1
    have hBl : (rnB A p).length ≤ 4 := by
      unfold rnB
      split
      · omega
      · rw [List.length_append]; simp only [List.length_cons, List.length_nil]; omega
    have hvB : ∀ v ∈ rnB A p, vk p.1 v := by
      intro v hv
      unfold rnB at hv
      split at hv
      · exact (hwA p.1 hpt).1 v hv
      · rcases List.mem_append.mp hv with hv | hv
        · exact (hwA p.1 hpt).1 v hv
        · simp at hv; subst hv; exact hpp.2
    have hnB : ((rnB A p).map (fun v => v.2)).Nodup := by
      unfold rnB
      split
      · exact (hwA p.1 hpt).2.2
      · rename_i hno
        rw [List.map_append, List.nodup_append]
        refine ⟨(hwA p.1 hpt).2.2, by simp, fun a ha b hb hab => hno ?_⟩
        simp at hb
        subst hab
        subst hb
        exact hs_mem.mpr ha
    have t4 : ∀ (I2 : xIt) (J2 : xJt), xSr (230 + 3 * p.1) I1 I2 J1 J2 → xRw I2 J2 (230 + 3 * p.1) (pkr (rnB A p)) → G_ED_rename l V (Qed o D (put1 D e0 (rnm D e0 x p g)) I J P) 129 [(0, xq (some 227)), (1, xq (some (o e0))), (2, xq (some 17)), (3, xi (if g = true then 1 else 0)), (4, xq (some 21)), (5, xi (nI p.1)), (6, xj (pkd p.2.2)), (8, xq w8), (9, xq (some (230 + 3 * p.1)))] [] I2 J2 (xu P 228 1 (x.2.2.2.map o)) := by
      intro I2 J2 hs2 hr2
      have hSd2 : xSd I I2 J J2 P (xu P 228 1 (x.2.2.2.map o)) := hSd.trans (xSd.row hro.2 hs2)
      have hT2 : xTr I2 J2 (xu P 228 1 (x.2.2.2.map o)) o D := hT1.keep (fun b j h1 h2 => hs2.1 b j (by omega)) (fun b j h1 h2 => hs2.2 b j (by omega) (by omega)) (fun _ _ _ _ => rfl)
      have hE2 : xEn I2 J2 (xu P 228 1 (x.2.2.2.map o)) 228 (fun i => pkr (setA A p.1 (rnB A p) i)) x.2.1 (pkd x.2.2.1) (x.2.2.2.map o) := xEn_set hL5 s0_228 hpt hE1 hs2 hr2
      refine b_ED_rename_129 hL5 ⟨_, rfl, hro.2, pk_in p.1 5 hpt, ?_⟩
      rw [pk_cl p.1, xs1_at p.1 hpt, hrn]
      refine pk_le (rnB A p).length (mo p.1) (fun z => ?_) (fun z => ⟨hL5, hSd2, by rw [if_neg (by omega)]; exact ⟨rfl, hT2⟩⟩) (hr2.1.trans (by rw [pkr_len])) rfl (by omega) (by omega)
      rw [if_pos z]
      have hwB : ∀ i, i < 5 → wfr i (setA A p.1 (rnB A p) i) := fun i hi => by
        by_cases hit : i = p.1
        · subst hit; rw [setA_at]; exact ⟨hvB, z, hnB⟩
        · rw [setA_ne hit]; exact hwA i hi
      refine ⟨_, c_EN_fitsSchema hL5 s0_228 hE2 (hwB 0 (by omega)).1, ?_⟩
      rintro w I7 _ _ ⟨rfl, rfl, rfl, rfl⟩
      by_cases hfi : fitb (setA A p.1 (rnB A p)) = true
      · rw [if_pos hfi, if_pos hfi]
        refine ⟨fun _ => ⟨_, c_EN_takeNamePart hL5 s0_228 s0_17, ?_⟩, fun z => absurd z (by decide)⟩
        rintro I3 J3 _ ⟨rfl, rfl, rfl⟩
        refine ⟨o e0, rfl, ho0.2.1, ?_⟩
        rw [lp_227_0 hL5]
        have h18 : I2 (17 + 1) 0 = nI p.1 := (hSd2.1 18 0 (by omega)).trans hN0.1
        have h20 : J2 (17 + 3) 0 = pkd p.2.2 := (hSd2.2.1 20 0 (by omega)).trans hN0.2.2
        rw [h18, h20]
        have hE3 : xEn (xu I2 228 2 (nI p.1)) (xu J2 228 3 (pkd p.2.2)) (xu P 228 1 (x.2.2.2.map o)) 228 (fun i => pkr (setA A p.1 (rnB A p) i)) p.1 (pkd p.2.2) (x.2.2.2.map o) := by
          refine ⟨fun t ht => ?_, xu_at, hpt, xu_at, hE2.2.2.2.2⟩
          have h := hE2.1 t ht
          exact ⟨(xu_other (by omega)).trans h.1, h.2.1, fun j z hj => ⟨(xu_other (by omega)).trans (h.2.2 j z hj).1, (xu_other (by omega)).trans (h.2.2 j z hj).2⟩⟩
        have hT3 : xTr (xu I2 228 2 (nI p.1)) (xu J2 228 3 (pkd p.2.2)) (xu P 228 1 (x.2.2.2.map o)) o D := hT2.keep (fun b j h1 h2 => xu_other (by omega)) (fun b j h1 h2 => xu_other (by omega)) (fun _ _ _ _ => rfl)
        refine ⟨_, c_EN_copy hL5 ho0.2.1 s0_228 ((ent_far s0_228 ho0.2.1 (by omega))) hE3, ?_⟩
        rintro I8 J8 _ ⟨rfl, hS8, hE8⟩
        refine ⟨xL_up hL5 ho0.2.1, hSd2.trans (xSd.trans ⟨fun b k hb => xu_other (by omega), fun b k hb => xu_other (by omega), fun _ _ _ => rfl⟩ (xSd.en ho0.2.1 hS8)), rfl, ?_⟩
        exact xTr.put (x' := (setA A p.1 (rnB A p), p.1, p.2.2, x.2.2.2)) hT3 he0 hS8 (hE8.congr (fun i hi => take_all (en_row hL5 ho0.2.1 hi).2 (hwB i hi)))
      · rw [if_neg hfi, if_neg hfi]
        exact ⟨fun z => absurd rfl z, fun _ => ⟨hL5, hSd2, rfl, hT2⟩⟩
    have hR1 := hE1.1 p.1 hpt
    refine b_ED_rename_94 hL5 ⟨pk_in p.1 5 hpt, 230 + 3 * p.1, ?_⟩
    rw [pk_cl p.1, hro.1]
    refine ⟨rfl, hro.2, _, c_VR_has hL5 hro.2 hR1, ?_⟩
    rintro w I7 _ _ ⟨rfl, rfl, rfl, rfl⟩
    rw [show (pkr (A p.1)).any (fun y => y.2 == pkd p.2.2) = hs (A p.1) p.2.2 from pkr_any hpv (hwA p.1 hpt).1]
    by_cases hh : hs (A p.1) p.2.2 = true
    · rw [if_pos hh]
      refine ⟨fun _ => t4 I1 J1 xSr.rfl ?_, fun z => absurd z (by decide)⟩
      rw [rnB, if_pos hh]
      exact hR1
    · rw [if_neg hh]
      refine ⟨fun z => absurd rfl z, fun _ => ⟨17, rfl, s0_17, ?_⟩⟩
      rw [show J1 (17 + 2) 0 = pkd p.2.1 from (hSd.2.1 19 0 (by omega)).trans hN0.2.1]
      refine ⟨_, c_VR_add hL5 hro.2 hR1, ?_⟩
      rintro I2 J2 _ ⟨rfl, hs2, hr2⟩
      rw [if_pos (by rw [show (fun i => pkr (A i)) p.1 = pkr (A p.1) from rfl, pkr_len]; have := cand_cap p.1 hpt; omega)] at hr2
      refine t4 I2 J2 hs2 ?_
      rw [rnB, if_neg hh]
      rw [show pkr (A p.1 ++ [p.2]) = pkr (A p.1) ++ [(pkd p.2.1, pkd p.2.2)] from by simp [pkr]]
      exact hr2
  have t2 : ∀ (w8 : Option Nat), chd D x.2.2.2 p.1 p.2.2 = none ∨ chd D x.2.2.2 p.1 p.2.2 = some e0 → G_ED_rename l V (Qed o D (put1 D e0 (rnm D e0 x p g)) I J P) 52 [(0, xq (some 227)), (1, xq (some (o e0))), (2, xq (some 17)), (3, xi (if g = true then 1 else 0)), (4, xq (some 21)), (5, xi (nI p.1)), (6, xj (pkd p.2.2)), (8, xq w8)] [] I J P := by
    intro w8 hch
    refine b_ED_rename_52 hL ⟨_, c_EN_copy hL s0_228 ho0.2.1 ((ent_far ho0.2.1 s0_228 (by omega))) hE, ?_⟩
    rintro I1 J1 _ ⟨rfl, hS1, hE1⟩
    have hL5 : xL (xu P 228 1 (x.2.2.2.map o)) := xL_up hL s0_228
    have hE1 := hE1.congr (B := fun t => pkr (x.1 t)) (fun t ht => take_all (en_row hL5 s0_228 ht).2 (hw.1 t ht))
    have hSd1 : xSd I I1 J J1 P (xu P 228 1 (x.2.2.2.map o)) := xSd.en s0_228 hS1
    have hT1 : xTr I1 J1 (xu P 228 1 (x.2.2.2.map o)) o D := hT.keep (fun b j h1 h2 => hS1.1 b j (by omega)) (fun b j h1 h2 => hS1.2 b j (by omega)) (fun b j h1 h2 => xu_other (by omega))
    cases g with
    | false =>
      refine ⟨fun _ => t3 x.1 w8 I1 J1 (by simp [rnA]) hSd1 hT1 hw.1 hE1 hch, fun z => absurd rfl z⟩
    | true =>
      have hEe := hT1.2.2.2.2 e0 x he0
      refine ⟨fun z => absurd z (by decide), fun _ => ⟨o e0, rfl, ho0.2.1, _, c_EN_isNamed hL5 ho0.2.1 hEe (by omega), ?_⟩⟩
      rintro w I7 _ _ ⟨rfl, rfl, rfl, rfl⟩
      by_cases hn : x.2.1 = p.1 ∧ x.2.2.1 = p.2.2
      · rw [if_pos ⟨hn.1, by rw [hn.2]⟩]
        refine ⟨fun _ => t3 x.1 w8 I1 J1 ?_ hSd1 hT1 hw.1 hE1 hch, fun z => absurd z (by decide)⟩
        rw [rnA, if_neg (fun z => z.2 hn)]
      · rw [if_neg (fun z => hn ⟨z.1, pkd_inj hw.2.2.1 hw.2.2.2 hpv.1 hpv.2 z.2⟩)]
        have hnt : x.2.1 < 5 := by have := hw.2.1; omega
        have hro := en_row hL5 s0_228 hnt
        refine ⟨fun z => absurd rfl z, fun _ => ?_⟩
        rw [hEe.2.1, hEe.2.2.2.1, pk_cl x.2.1]
        refine ⟨pk_in x.2.1 5 hnt, _, hro.1, hro.2, _, c_VR_remove hL5 hro.2 (hE1.1 x.2.1 hnt), ?_⟩
        rintro I2 J2 _ ⟨rfl, hs2, hr2⟩
        rw [show (fun t => pkr (x.1 t)) x.2.1 = pkr (x.1 x.2.1) from rfl, pkr_rm hw.2.2 (hw.1 x.2.1 hnt).1] at hr2
        have hwR := hw.1 x.2.1 hnt
        refine t3 (setA x.1 x.2.1 ((x.1 x.2.1).filter (fun y => !(y.2 == x.2.2.1)))) w8 I2 J2 ?_ (hSd1.trans (xSd.row hro.2 hs2)) (hT1.keep (fun b j h1 h2 => hs2.1 b j (by omega)) (fun b j h1 h2 => hs2.2 b j (by omega) (by omega)) (fun _ _ _ _ => rfl)) (fun i hi => ?_) (xEn_set hL5 s0_228 hnt hE1 hs2 hr2) hch
        · rw [rnA, if_pos ⟨rfl, hn⟩]
        · by_cases hit : i = x.2.1
          · subst hit; rw [setA_at]
            exact ⟨fun v hv => hwR.1 v (List.mem_filter.mp hv).1, Nat.le_trans (List.length_filter_le _ _) hwR.2.1, List.Nodup.sublist (List.Sublist.map _ List.filter_sublist) hwR.2.2⟩
          · rw [setA_ne hit]; exact hw.1 i hi
  refine e_ED_rename (b_ED_rename_0 hL ⟨fun _ => ⟨17, rfl, s0_17, o e0, rfl, ho0.2.1, 21, rfl, s0_21, ?_⟩, fun z => by cases z⟩)
  rw [hE.2.2.2.2, show I (17 + 1) 0 = nI p.1 from hN0.1, show J (17 + 3) 0 = pkd p.2.2 from hN0.2.2]
  refine ⟨_, c_TR_childOf hL hT hW (fun w hw' => by have := (hW e0 x he0).2 w hw'; omega) (by omega) hpv, ?_⟩
  rintro w I7 _ _ ⟨rfl, rfl, rfl, rfl⟩
  cases hc : chd D x.2.2.2 p.1 p.2.2 with
  | none => exact ⟨fun _ => t2 _ (Or.inl hc), fun z => absurd rfl z⟩
  | some k =>
    have hk := chd_lt hc
    refine ⟨fun z => (by cases z), fun _ => ⟨fun z => ?_, fun z => ⟨hL, xSd.rfl, ?_⟩⟩⟩
    · have := hT.2.2.2.1 k e0 (by omega) (by omega) (Option.some.inj z)
      subst this
      exact t2 _ (Or.inr hc)
    · rw [rnm, if_neg (fun h => by
        rcases h with h | h
        · rw [hc] at h; cases h
        · rw [hc] at h; cases h; exact z rfl)]
      exact ⟨rfl, hT⟩
end XED3

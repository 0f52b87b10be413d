/-! the session: bind, delete, compare, scope -/
theorem xL_free {P : xPt} {a k : Nat} {r : Option Nat} (h : xFz a k = false) (hL : xL P) : xL (xu P a k r) := by
  intro b j hb
  by_cases hc : b = a ∧ j = k
  · obtain ⟨rfl, rfl⟩ := hc
    rw [h] at hb
    cases hb
  · rw [xu_other hc]
    exact hL b j hb
theorem fz02 : xFz 0 2 = false := by decide +kernel
theorem pkr_any_no {t : Nat} : ∀ {R : List Vl}, (∀ v ∈ R, vk t v) → (pkr R).any (fun x => x.2 == (-1 : Int64)) = false := by
  intro R hR
  rw [List.any_eq_false]
  intro x hx
  unfold pkr at hx
  obtain ⟨v, hv, rfl⟩ := List.mem_map.mp hx
  have h := vk_pl (hR v hv)
  simp
  exact pkd_m1 h.1 h.2
theorem val4 {m : Nat → Nat} {C : Nat × Nat} {g : List Nat} (hb : ∀ j, j < C.2 → m j < 256) (h : vo m C.1 C.2 = some g) : val m 4 C = some (g, g) := by
  have := (vo_ok hb h).2.2
  simp [val, h, po, this]
/-- whom a name of a request names -/
def whoO (m : Nat → Nat) (A : Nat × Nat) (D : List Ent) : Option Nat := match nr m A.1 A.2 with
  | none => none
  | some N => (fdn D N).bind id
theorem whoO_eq {m : Nat → Nat} {A : Nat × Nat} {D : List Ent} {k : Nat} : whoO m A D = some k ↔ whoM m A D = .inr k := by
  unfold whoO whoM
  cases nr m A.1 A.2 with
  | none => simp
  | some N =>
    simp only
    cases fdn D N with
    | none => simp
    | some u => cases u with
      | none => simp
      | some w => simp
theorem whoO_no {m : Nat → Nat} {A : Nat × Nat} {D : List Ent} (h : whoO m A D = none) : ∃ c, whoM m A D = .inl c := by
  cases hw : whoM m A D with
  | inl c => exact ⟨c, rfl⟩
  | inr k => rw [whoO_eq.mpr hw] at h; cases h
theorem whoO_32 {m : Nat → Nat} {A : Nat × Nat} {D : List Ent} (h : whoO m A D = none) {N : List (Nat × List Nat × List Nat)} (hN : nr m A.1 A.2 = some N) : whoM m A D = .inl 32 := by
  unfold whoO at h
  unfold whoM
  rw [hN] at h ⊢
  simp only at h ⊢
  cases hf : fdn D N with
  | none => rfl
  | some u => cases u with
    | none => rfl
    | some w => rw [hf] at h; cases h
section XDS
variable {l : Launch} {V : xV} {I : xIt} {J : xJt} {P : xPt} {o : Nat → Nat} {D : List Ent} {m : Nat → Nat} {e : Nat}
set_option maxRecDepth 20000 in
theorem c_DS_bind {A C : Nat × Nat} {v : Int32} {b : Option Nat} (hL : xL P) (hm : xMs I 2 m e) (he : e ≤ 153) (hTx : xTx I [A, C]) (h4 : I 1 4 = v) (hA : A.1 ≤ A.2 ∧ A.2 ≤ e) (hC : C.1 ≤ C.2 ∧ C.2 ≤ e) (hT : xTr I J P o D) (hW : wf D) (hb : P 0 2 = b.map o) : xMet l V y_DS_bind 4 0 0 [xq (some 0), xq ((whoO m A D).map o)] xS0 I J P (xPi (fun r I' J' P' => I = I' ∧ J = J' ∧ xL P' ∧ (∀ b k, ¬ (b = 0 ∧ k = 2) → P' b k = P b k) ∧ r = nI (bndm m D b (v, A, C)).1 ∧ P' 0 2 = (bndm m D b (v, A, C)).2.map o)) := by
  have h12 := hT.2.1
  have hL0 : xL (xu P 0 2 none) := xL_free fz02 hL
  have hf0 : ∀ a k, ¬ (a = 0 ∧ k = 2) → xu P 0 2 none a k = P a k := fun a k h => xu_other h
  refine e_DS_bind (b_DS_bind_0 hL ?_)
  rw [h4]
  by_cases hv : v = 3
  · subst hv
    refine ⟨fun _ => ⟨hL0, 1, lp_0_5 hL, s0_1, _, c_RQ_isEmpty (k := 0) hL0 hTx rfl (by simp) (by omega), ?_⟩, fun z => absurd rfl z⟩
    rintro w I1 _ _ ⟨rfl, rfl, rfl, rfl⟩
    have t42 : ¬ (A.1 = A.2 ∧ C.1 = C.2) → G_DS_bind l V (fun r I' J' P' => I = I' ∧ J = J' ∧ xL P' ∧ (∀ b k, ¬ (b = 0 ∧ k = 2) → P' b k = P b k) ∧ r = nI (bndm m D b (3, A, C)).1 ∧ P' 0 2 = (bndm m D b (3, A, C)).2.map o) 42 [(0, xq (some 0)), (1, xq ((whoO m A D).map o))] [] I J (xu P 0 2 none) := by
      intro hne
      have hbn : bndm m D b (3, A, C) = match whoM m A D with
        | .inl _ => (49, none)
        | .inr w => match val m 4 C with
          | none => (49, none)
          | some v => if hs (rowsM D w 4) v.2 = true then (0, some w) else (49, none) := by
        unfold bndm
        simp only [if_pos]
        rw [if_neg hne]
        rfl
      refine b_DS_bind_42 hL0 ?_
      cases hw : whoO m A D with
      | none =>
        obtain ⟨c, hc⟩ := whoO_no hw
        rw [hc] at hbn
        refine ⟨fun _ => ⟨rfl, rfl, hL0, hf0, ?_, ?_⟩, fun z => absurd rfl z⟩
        · rw [hbn]; rfl
        · rw [hbn]; exact xu_at
      | some k =>
        have hwm := whoO_eq.mp hw
        have hk := whoM_lt hwm
        rw [hwm] at hbn
        simp only at hbn
        obtain ⟨x, hx⟩ : ∃ x, D[k]? = some x := ⟨_, List.getElem?_eq_getElem hk⟩
        have hrow : rowsM D k = x.1 := by unfold rowsM; rw [hx]
        have hok := hT.2.2.1 k (by omega)
        have hro := en_row hL hok.2.1 (show 4 < 5 by omega)
        have hE := hT.2.2.2.2 k x hx
        have hw5 := (hW k x hx).1.1 4 (by omega)
        have h1 := ent0 _ (x_lt0 hok.2.1) hok.2.1
        refine ⟨fun z => (by cases z), fun _ => ⟨o k, rfl, hok.2.1, _, c_RQ_packed (k := 1) hL0 hm he hTx rfl (by simp) hC, ?_⟩⟩
        rintro w I1 _ _ ⟨rfl, rfl, rfl, rfl⟩
        refine ⟨o k + 2 + 3 * 4, (xu_other (by omega)).trans hro.1, hro.2, _, c_VR_has hL0 hro.2 (hE.1 4 (by omega)), ?_⟩
        rintro w I1 _ _ ⟨rfl, rfl, rfl, rfl⟩
        cases hvo : vo m C.1 C.2 with
        | none =>
          have hval : val m 4 C = none := by simp [val, hvo]
          rw [hval] at hbn
          rw [show ((fun t => pkr (x.1 t)) 4).any (fun y => y.2 == pko none) = false from pkr_any_no hw5.1, if_neg (by decide)]
          refine ⟨fun z => absurd rfl z, fun _ => ⟨rfl, rfl, hL0, hf0, ?_, ?_⟩⟩
          · rw [hbn]; rfl
          · rw [hbn]; exact xu_at
        | some g =>
          have hgo := vo_ok (fun i hi => (hm i (by omega)).2) hvo
          rw [val4 (fun j hj => (hm j (by omega)).2) hvo] at hbn
          simp only [hrow] at hbn
          rw [show ((fun t => pkr (x.1 t)) 4).any (fun y => y.2 == pko (some g)) = hs (x.1 4) g from pkr_any ⟨hgo.1, hgo.2.1⟩ hw5.1]
          by_cases hh : hs (x.1 4) g = true
          · rw [if_pos hh] at hbn ⊢
            refine ⟨fun _ => ⟨xL_free fz02 hL0, rfl, rfl, xL_free fz02 hL0, fun a j h => (xu_other h).trans (hf0 a j h), ?_, ?_⟩, fun z => absurd z (by decide)⟩
            · rw [hbn]; rfl
            · rw [hbn]; exact xu_at
          · rw [if_neg hh] at hbn ⊢
            refine ⟨fun z => absurd rfl z, fun _ => ⟨rfl, rfl, hL0, hf0, ?_, ?_⟩⟩
            · rw [hbn]; rfl
            · rw [hbn]; exact xu_at
    by_cases hAe : A.1 = A.2
    · rw [if_pos hAe]
      refine ⟨fun z => absurd z (by decide), fun _ => ⟨_, c_RQ_isEmpty (k := 1) hL0 hTx rfl (by simp) (by omega), ?_⟩⟩
      rintro w I1 _ _ ⟨rfl, rfl, rfl, rfl⟩
      by_cases hCe : C.1 = C.2
      · rw [if_pos hCe]
        have hbn : bndm m D b (3, A, C) = (0, none) := by
          unfold bndm
          simp only [if_pos]
          rw [if_pos ⟨hAe, hCe⟩]
        refine ⟨fun z => absurd z (by decide), fun _ => ⟨rfl, rfl, hL0, hf0, ?_, ?_⟩⟩
        · rw [hbn]; rfl
        · rw [hbn]; exact xu_at
      · rw [if_neg hCe]
        exact ⟨fun _ => t42 (fun h => hCe h.2), fun z => absurd rfl z⟩
    · rw [if_neg hAe]
      exact ⟨fun _ => t42 (fun h => hAe h.1), fun z => absurd rfl z⟩
  · have hbn : bndm m D b (v, A, C) = (2, b) := by
      unfold bndm
      rw [if_neg hv]
    refine ⟨fun z => absurd z hv, fun _ => ⟨rfl, rfl, hL, fun _ _ _ => rfl, ?_, ?_⟩⟩
    · rw [hbn]; rfl
    · rw [hbn]; exact hb
/-- the tree's cells and the editor's may have changed; who is bound is told anew -/
def Qdl (R : Nat × List Ent × Option Nat) (I : xIt) (J : xJt) : Int32 → xIt → xJt → xPt → Prop := fun r I' J' P' => xL P' ∧ (∀ b k, b < 21 ∨ 248 ≤ b → I' b k = I b k) ∧ r = nI R.1 ∧ ∃ o', xTr I' J' P' o' R.2.1 ∧ P' 0 2 = R.2.2.map o'
set_option maxRecDepth 20000 in
theorem c_DS_delete {k : Nat} {b : Option Nat} (hL : xL P) (hT : xTr I J P o D) (hW : wf D) (hk : k < D.length) (hbo : bok D b) (hb : P 0 2 = b.map o) : xMet l V y_DS_delete 4 0 0 [xq (some 0), xq (some (o k))] xS0 I J P (xPi (Qdl (if D.any (fun x => decide (x.2.2.2 = some k)) = true then (66, D, b) else (0, dlt D k, if b = some k then none else b.map (dlu k))) I J)) := by
  have h12 := hT.2.1
  have hok := hT.2.2.1 k (by omega)
  have h1 := ent0 _ (x_lt0 hok.2.1) hok.2.1
  have rem : ∀ (P1 : xPt) (b' : Option Nat), xL P1 → xTr I J P1 o D → P1 0 2 = b'.map o → bok D b' → b' ≠ some k → D.any (fun x => decide (x.2.2.2 = some k)) ≠ true → ∃ Q2 : xIt → xJt → xPt → Prop, xMet l V y_TR_remove 3 0 0 [xq (some 21), xq (some (o k))] xS0 I J P1 (xPv Q2) ∧ ∀ (I2 : xIt) (J2 : xJt) (P2 : xPt), Q2 I2 J2 P2 → Qdl (0, dlt D k, b'.map (dlu k)) I J 0 I2 J2 P2 := by
    intro P1 b' hL1 hT1 hb1 hbo1 hbk hany
    have hno : ∀ (i : Nat) (x : Ent), D[i]? = some x → x.2.2.2 ≠ some k := fun i x hx hu => hany (List.any_eq_true.mpr ⟨x, List.mem_of_getElem? hx, by simp [hu]⟩)
    refine ⟨_, c_TR_remove hL1 hT1 hW hk hno, ?_⟩
    rintro I2 J2 P2 ⟨hP2, hs2, hT2⟩
    refine ⟨fun a j hf => ?_, fun a j ha => hs2.1 a j (by omega) (by omega), rfl, _, hT2, ?_⟩
    · by_cases h22 : a = 22
      · subst h22
        rw [fz_no fz22] at hf
        cases hf
      · by_cases hc : a = o k ∧ j = 1
        · obtain ⟨rfl, rfl⟩ := hc
          rw [en1 _ (x_lt0 hok.2.1) hok.2.1] at hf
          cases hf
        · rw [hP2 a j h22 hc]
          exact hL1 a j hf
    · rw [hP2 0 2 (by omega) (by omega), hb1]
      cases hb'' : b' with
      | none => rfl
      | some w =>
        simp only [Option.map_some]
        rw [osh_up hk (hbo1 w hb'') (fun z => hbk (by rw [hb'', z]))]
  refine e_DS_delete (b_DS_delete_0 hL ⟨_, c_TR_hasBelow hL hT hW hk, ?_⟩)
  rintro w I1 _ _ ⟨rfl, rfl, rfl, rfl⟩
  by_cases hany : D.any (fun x => decide (x.2.2.2 = some k)) = true
  · rw [if_pos hany, if_pos hany]
    exact ⟨fun z => absurd z (by decide), fun _ => ⟨hL, fun _ _ _ => rfl, rfl, o, hT, hb⟩⟩
  · rw [if_neg hany, if_neg hany]
    refine ⟨fun _ => ⟨fun z => ?_, fun z => ?_⟩, fun z => absurd rfl z⟩
    · have hbk : b ≠ some k := fun h => z (by rw [hb, h]; rfl)
      rw [if_neg hbk]
      exact rem P b hL hT hb hbo hbk hany
    · have hbk : b = some k := by
        rw [hb] at z
        cases hb'' : b with
        | none => rw [hb''] at z; cases z
        | some w =>
          rw [hb''] at z
          have h5 := hbo w hb''
          rw [hT.2.2.2.1 w k (by omega) (by omega) (Option.some.inj z)]
      rw [if_pos hbk]
      refine ⟨xL_free fz02 hL, 21, lp_0_8 hL, s0_21, ?_⟩
      exact rem (xu P 0 2 none) none (xL_free fz02 hL) (hT.keep (fun _ _ _ _ => rfl) (fun _ _ _ _ => rfl) (fun a j h3 h4 => xu_other (by omega))) xu_at (fun j hj => by cases hj) (fun h => by cases h) hany
set_option maxRecDepth 20000 in
theorem c_DS_compare {A B C : Nat × Nat} {k : Nat} (hL : xL P) (hm : xMs I 2 m e) (he : e ≤ 153) (hTx : xTx I [A, B, C]) (hB : B.1 ≤ B.2 ∧ B.2 ≤ e) (hC : C.1 ≤ C.2 ∧ C.2 ≤ e) (hT : xTr I J P o D) (hW : wf D) (hw : whoM m A D = .inr k) : xMet l V y_DS_compare 4 0 0 [xq (some 0), xq (some (o k))] xS0 I J P (xPi (fun r I' J' P' => I = I' ∧ J = J' ∧ P = P' ∧ r = nI (cmpM m A B C D))) := by
  have h12 := hT.2.1
  have hk := whoM_lt hw
  obtain ⟨x, hx⟩ : ∃ x, D[k]? = some x := ⟨_, List.getElem?_eq_getElem hk⟩
  have hrow : rowsM D k = x.1 := by unfold rowsM; rw [hx]
  have hok := hT.2.2.1 k (by omega)
  have hE := hT.2.2.2.2 k x hx
  have hwe := (hW k x hx).1
  refine e_DS_compare (b_DS_compare_0 hL ⟨_, c_RQ_typeOf (k := 1) hL hm he hTx rfl (by simp) hB, ?_⟩)
  rintro w I1 _ _ ⟨rfl, rfl, rfl, rfl⟩
  cases hty : tyx m B with
  | none =>
    have hcm : cmpM m A B C D = 17 := by simp [cmpM, hw, hty]
    exact ⟨fun z => absurd rfl z, fun _ => ⟨rfl, rfl, rfl, by rw [hcm]; rfl⟩⟩
  | some t =>
    have ht := tyx_5 hty
    have hro := en_row hL hok.2.1 ht
    have hR := hE.1 t ht
    have hwr := hwe.1 t ht
    have hmo : mo t ≤ 3 := by unfold mo; split <;> omega
    refine ⟨fun _ => ⟨_, c_RQ_packed (k := 2) hL hm he hTx rfl (by simp) hC, ?_⟩, fun z => absurd z (nI_m1 (by omega))⟩
    rintro w I1 _ _ ⟨rfl, rfl, rfl, rfl⟩
    cases hvo : vo m C.1 C.2 with
    | none =>
      have hval : val m t C = none := by simp [val, hvo]
      refine ⟨_, c_SX_plainOf_no hL, ?_⟩
      rintro w I1 _ _ ⟨rfl, rfl, rfl, rfl⟩
      rw [lg_cmp_eq]
      have hcm : cmpM m A B C D = 21 := by simp [cmpM, hw, hty, hval]
      exact ⟨fun z => absurd rfl z, fun _ => ⟨rfl, rfl, rfl, by rw [hcm]; rfl⟩⟩
    | some g =>
      have hgo := vo_ok (fun i hi => (hm i (by omega)).2) hvo
      refine ⟨_, c_SX_plainOf hL hgo.1 hgo.2.1 ht, ?_⟩
      rintro w I1 _ _ ⟨rfl, rfl, rfl, rfl⟩
      rw [lg_cmp_eq]
      cases hpo : po t g with
      | none =>
        have hval : val m t C = none := by simp [val, hvo, hpo]
        have hcm : cmpM m A B C D = 21 := by simp [cmpM, hw, hty, hval]
        exact ⟨fun z => absurd rfl z, fun _ => ⟨rfl, rfl, rfl, by rw [hcm]; rfl⟩⟩
      | some p =>
        have hval : val m t C = some (g, p) := by simp [val, hvo, hpo]
        have hpk := po_ok hgo.1 hgo.2.1 hpo
        have hcm : cmpM m A B C D = if (x.1 t).length = 0 then 16 else if hs (x.1 t) p = true then 6 else 5 := by simp [cmpM, hw, hty, hval, hrow]
        rw [hcm]
        refine ⟨fun _ => ⟨o k, rfl, hok.2.1, pk_in t 5 ht, o k + 2 + 3 * t, ?_⟩, fun z => absurd z (pkd_m1 hpk.1 hpk.2)⟩
        rw [show tyo (some t) = nI t from rfl, ncl t]
        refine ⟨hro.1, hro.2, (pk_eq (x.1 t).length 0 (fun z => ⟨rfl, rfl, rfl, by rw [if_pos z]; rfl⟩) (fun z => ?_) (hR.1.trans (by rw [pkr_len])) rfl (by have := hwr.2.1; omega) (by omega)).symm⟩
        rw [if_neg z]
        refine ⟨pk_in t 5 ht, _, hro.1, hro.2, _, c_VR_has hL hro.2 hR, ?_⟩
        rintro w I1 _ _ ⟨rfl, rfl, rfl, rfl⟩
        rw [show ((fun t => pkr (x.1 t)) t).any (fun y => y.2 == pko (some p)) = hs (x.1 t) p from pkr_any hpk hwr.1]
        by_cases hh : hs (x.1 t) p = true
        · rw [if_pos hh, if_pos hh]
          exact ⟨fun z => absurd z (by decide), fun _ => ⟨rfl, rfl, rfl, rfl⟩⟩
        · rw [if_neg hh, if_neg hh]
          exact ⟨fun _ => ⟨rfl, rfl, rfl, rfl⟩, fun z => absurd rfl z⟩
theorem aob_abv {u : Option Nat} (hT : xTr I J P o D) (hW : wf D) (hu : ∀ w, u = some w → w < D.length) : ∀ (n : Nat) (w : Option Nat), (∀ j, w = some j → j < D.length) → aob P (u.map o) n (w.map o) = abv D u n w := by
  have h12 := hT.2.1
  intro n
  induction n with
  | zero => intro w _; cases w <;> rfl
  | succ n ih =>
    intro w hw
    cases w with
    | none => rfl
    | some j =>
      have hj := hw j rfl
      obtain ⟨x, hx⟩ : ∃ x, D[j]? = some x := ⟨_, List.getElem?_eq_getElem hj⟩
      have hE := hT.2.2.2.2 j x hx
      rw [Option.map_some, aob, abv, hx]
      simp only
      by_cases hc : some j = u
      · rw [if_pos hc, if_pos (by rw [← hc]; rfl)]
      · rw [if_neg hc, if_neg (show ¬ some (o j) = u.map o from fun z => hc (up_inj hT.2.2.2.1 (a := some j) (fun w hw' => by cases hw'; omega) (fun w hw' => by have := hu w hw'; omega) z)), hE.2.2.2.2]
        exact ih _ (fun w hw' => by have := (hW j x hx).2 w hw'; omega)
set_option maxRecDepth 20000 in
theorem c_DS_inScope {c i : Nat} {u : Option Nat} {x : Ent} (hL : xL P) (hT : xTr I J P o D) (hW : wf D) (hc : I 1 5 = nI c) (hc2 : c ≤ 2) (hx : D[i]? = some x) (hu : ∀ w, u = some w → w < D.length) : xMet l V y_DS_inScope 2 0 0 [xq (some 0), xq (some (o i)), xq (u.map o)] xS0 I J P (xPi (fun r I' J' P' => I = I' ∧ J = J' ∧ P = P' ∧ r = if isc D c u i x = true then 1 else 0)) := by
  have h12 := hT.2.1
  have hil := (List.getElem?_eq_some_iff.mp hx).1
  have hoi := hT.2.2.1 i (by omega)
  have hE := hT.2.2.2.2 i x hx
  refine e_DS_inScope (b_DS_inScope_0 hL ?_)
  rw [hc]
  refine (pk_eq c 0 (fun z => ?_) (fun z => (pk_eq c 1 (fun z1 => ⟨o i, rfl, hoi.2.1, ?_⟩) (fun z1 => ?_)).symm)).symm
  · have h : isc D c u i x = decide (some i = u) := by unfold isc; rw [if_pos z]
    rw [h]
    by_cases hcu : some i = u
    · exact ⟨fun w => absurd (by rw [← hcu]; rfl) w, fun _ => ⟨rfl, rfl, rfl, by simp [hcu]⟩⟩
    · exact ⟨fun _ => ⟨rfl, rfl, rfl, by simp [hcu]⟩, fun w => absurd (up_inj hT.2.2.2.1 (a := some i) (fun w hw' => by cases hw'; omega) (fun w hw' => by have := hu w hw'; omega) w) hcu⟩
  · have h : isc D c u i x = (decide (u = none) || abv D u 3 (some i)) := by unfold isc; rw [if_neg z, if_neg z1]
    rw [h]
    cases u with
    | none => exact ⟨fun _ => ⟨rfl, rfl, rfl, by simp⟩, fun w => absurd rfl w⟩
    | some w =>
      refine ⟨fun z => (by cases z), fun _ => ⟨o i, rfl, hoi.2.1, _, c_EN_isAtOrBelow (K := fun y => ∃ j, j < D.length ∧ y = o j) hL ?_ ⟨i, hil, rfl⟩, ?_⟩⟩
      · rintro y ⟨j, hj, rfl⟩
        obtain ⟨xj, hxj⟩ : ∃ x, D[j]? = some x := ⟨_, List.getElem?_eq_getElem hj⟩
        refine ⟨(hT.2.2.1 j (by omega)).2.1, fun z hz => ?_⟩
        rw [(hT.2.2.2.2 j xj hxj).2.2.2.2] at hz
        obtain ⟨v, hv, rfl⟩ := Option.map_eq_some_iff.mp hz
        exact ⟨v, by have := (hW j xj hxj).2 v hv; omega, rfl⟩
      · rintro r I1 _ _ ⟨rfl, rfl, rfl, rfl⟩
        rw [show aob P ((some w).map o) 3 (some (o i)) = abv D (some w) 3 (some i) from aob_abv hT hW hu 3 (some i) (fun j hj => by cases hj; exact hil)]
        by_cases hab : abv D (some w) 3 (some i) = true
        · rw [if_pos hab]
          exact ⟨fun z => absurd z (by decide), fun _ => ⟨rfl, rfl, rfl, by simp [hab]⟩⟩
        · rw [if_neg hab]
          exact ⟨fun _ => ⟨rfl, rfl, rfl, by simp [hab]⟩, fun z => absurd rfl z⟩
  · have h : isc D c u i x = decide (x.2.2.2 = u) := by unfold isc; rw [if_neg z, if_pos z1]
    rw [h, hE.2.2.2.2]
    by_cases hcu : x.2.2.2 = u
    · exact ⟨fun w => absurd (by rw [hcu]) w, fun _ => ⟨rfl, rfl, rfl, by simp [hcu]⟩⟩
    · exact ⟨fun _ => ⟨rfl, rfl, rfl, by simp [hcu]⟩, fun w => absurd (up_inj hT.2.2.2.1 (fun w hw' => by have := (hW i x hx).2 w hw'; omega) (fun w hw' => by have := hu w hw'; omega) w) hcu⟩
end XDS

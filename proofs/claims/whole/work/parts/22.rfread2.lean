/-! the reference's readers of texts and value lists -/
def dF (ks as : List Nat) (a k : Nat) : Bool := (a == 250 && ks.contains k) || as.contains a
theorem dF_mono {ks ks' as as' : List Nat} (h1 : ks.all (fun x => ks'.contains x) = true) (h2 : as.all (fun x => as'.contains x) = true) (a k : Nat) (h : dF ks' as' a k = false) : dF ks as a k = false := by
  simp only [dF, Bool.or_eq_false_iff, Bool.and_eq_false_iff] at h ⊢
  obtain ⟨h3, h4⟩ := h
  refine ⟨?_, ?_⟩
  · rcases h3 with h3 | h3
    · exact Or.inl h3
    · refine Or.inr ?_
      cases hc : ks.contains k with
      | false => rfl
      | true =>
        have h5 := List.all_eq_true.mp h1 k (by simpa using hc)
        rw [h5] at h3
        cases h3
  · cases hc : as.contains a with
    | false => rfl
    | true =>
      have h5 := List.all_eq_true.mp h2 a (by simpa using hc)
      rw [h5] at h4
      cases h4
theorem dK_F (a k : Nat) : dK a k = dF [3, 4, 5, 6] [] a k := by
  simp [dK, dF, List.contains, List.elem]
  cases (a == 250) <;> cases (k == 3) <;> cases (k == 4) <;> cases (k == 5) <;> cases (k == 6) <;> rfl
theorem dI_F (a k : Nat) : dI a k = dF [3, 4, 5, 6, 7] [] a k := by
  simp [dI, dF, List.contains, List.elem]
  cases (a == 250) <;> cases (k == 3) <;> cases (k == 4) <;> cases (k == 5) <;> cases (k == 6) <;> cases (k == 7) <;> rfl
theorem xsm.K {I I' : xIt} {ks as : List Nat} (h : xsm dK I I') (hk : [3, 4, 5, 6].all (fun x => ks.contains x) = true) : xsm (dF ks as) I I' := fun a k hd => h a k (by rw [dK_F]; exact dF_mono hk (Eq.refl _) a k hd)
theorem xsm.I {I I' : xIt} {ks as : List Nat} (h : xsm dI I I') (hk : [3, 4, 5, 6, 7].all (fun x => ks.contains x) = true) : xsm (dF ks as) I I' := fun a k hd => h a k (by rw [dI_F]; exact dF_mono hk (Eq.refl _) a k hd)
theorem xsm.F {I I' : xIt} {ks as ks' as' : List Nat} (h : xsm (dF ks as) I I') (hk : ks.all (fun x => ks'.contains x) = true) (ha : as.all (fun x => as'.contains x) = true) : xsm (dF ks' as') I I' := fun a k hd => h a k (dF_mono hk ha a k hd)
def sg (m : Nat → Nat) (w p e : Nat) : Option (Nat × Nat) := match tk m w 1 p e with
  | some q => if q.1 = q.2 then none else some (m q.1, q.2)
  | none => none
def QS (m : Nat → Nat) (w p e : Nat) (I : xIt) (J : xJt) (P : xPt) : Int32 → xIt → xJt → xPt → Prop := fun r I' J' P' => J = J' ∧ P = P' ∧ xsm dI I I' ∧ match sg m w p e with
  | some q => r = 1 ∧ I' 250 7 = nI q.1 ∧ I' 250 6 = nI q.2
  | none => r = 0
set_option maxRecDepth 20000 in
theorem c_RF_single {l : Launch} {V : xV} {I : xIt} {J : xJt} {P : xPt} {m : Nat → Nat} {w p e : Nat} (hL : xL P) (hm : xMs I 251 m e) (he : e ≤ 160) (hp : p < 1000) (hw : w < 256) (hat : I 250 6 = nI p) : xMet l V y_RF_single 3 0 0 [xq (some 250), xi (nI w), xi (nI e)] xS0 I J P (xPi (QS m w p e I J P)) := by
  refine e_RF_single (b_RF_single_0 hL ⟨QK m w 1 p e I J P, c_RF_take hL hm he hp hw (by decide) hat, ?_⟩)
  rintro r I1 _ _ ⟨rfl, rfl, hs, ht⟩
  have hs' : xsm dI I I1 := hs.mono (fun _ _ => dK_I)
  cases hq : tk m w 1 p e with
  | none =>
    rw [hq] at ht
    have ht : r = 0 := ht
    subst ht
    refine ⟨fun _ => ⟨rfl, rfl, hs', ?_⟩, fun c => absurd rfl c⟩
    have hsg : sg m w p e = none := by simp only [sg, hq]
    rw [hsg]
  | some q =>
    obtain ⟨f, u⟩ := q
    rw [hq] at ht
    obtain ⟨rfl, h4, h5, h6⟩ := ht
    have b := tk_bd hq
    have hm1 := hm.sm hs (fun j => rfl)
    refine ⟨fun c => absurd c (by decide), fun _ => ?_⟩
    rw [h4, h5]
    refine (pk_eq u f (fun c => ⟨rfl, rfl, hs', ?_⟩) (fun c => ⟨pk_in f 160 (by omega), rfl, rfl, hs'.put rfl, ?_⟩)).symm
    · have hsg : sg m w p e = none := by simp only [sg, hq, if_pos c.symm]
      rw [hsg]
    · have hsg : sg m w p e = some (m f, u) := by simp only [sg, hq, if_neg (show ¬ f = u by omega)]
      rw [hsg, pk_cl f, (hm1 f (by omega)).1]
      exact ⟨rfl, rfl, h6⟩
def QA (m : Nat → Nat) (k1 k2 p e : Nat) (I : xIt) (J : xJt) (P : xPt) : Int32 → xIt → xJt → xPt → Prop := fun r I' J' P' => J = J' ∧ P = P' ∧ xsm (dF [3, 4, 5, 6, k1, k2] []) I I' ∧ match tk m 4 30 p e with
  | some q => r = 1 ∧ I' 250 k1 = nI q.1 ∧ I' 250 k2 = nI q.2 ∧ I' 250 6 = nI q.2
  | none => r = 0
set_option maxRecDepth 20000 in
theorem c_RF_textA {l : Launch} {V : xV} {I : xIt} {J : xJt} {P : xPt} {m : Nat → Nat} {p e : Nat} (hL : xL P) (hm : xMs I 251 m e) (he : e ≤ 160) (hp : p < 1000) (hat : I 250 6 = nI p) : xMet l V y_RF_textA 3 0 0 [xq (some 250), xi (nI e)] xS0 I J P (xPi (QA m 12 13 p e I J P)) := by
  refine e_RF_textA (b_RF_textA_0 hL ⟨QK m 4 30 p e I J P, c_RF_take hL hm he hp (by decide) (by decide) hat, ?_⟩)
  rintro r I1 _ _ ⟨rfl, rfl, hs, ht⟩
  have hs' : xsm (dF [3, 4, 5, 6, 12, 13] []) I I1 := hs.K rfl
  cases hq : tk m 4 30 p e with
  | none =>
    rw [hq] at ht
    have ht : r = 0 := ht
    subst ht
    exact ⟨fun c => absurd rfl c, fun _ => ⟨rfl, rfl, hs', by rw [hq]⟩⟩
  | some q =>
    rw [hq] at ht
    obtain ⟨rfl, h4, h5, h6⟩ := ht
    exact ⟨fun _ => ⟨rfl, rfl, (hs'.put rfl).put rfl, by rw [hq]; exact ⟨rfl, h4, h5, h6⟩⟩, fun c => absurd c (by decide)⟩
set_option maxRecDepth 20000 in
theorem c_RF_textB {l : Launch} {V : xV} {I : xIt} {J : xJt} {P : xPt} {m : Nat → Nat} {p e : Nat} (hL : xL P) (hm : xMs I 251 m e) (he : e ≤ 160) (hp : p < 1000) (hat : I 250 6 = nI p) : xMet l V y_RF_textB 3 0 0 [xq (some 250), xi (nI e)] xS0 I J P (xPi (QA m 14 15 p e I J P)) := by
  refine e_RF_textB (b_RF_textB_0 hL ⟨QK m 4 30 p e I J P, c_RF_take hL hm he hp (by decide) (by decide) hat, ?_⟩)
  rintro r I1 _ _ ⟨rfl, rfl, hs, ht⟩
  have hs' : xsm (dF [3, 4, 5, 6, 14, 15] []) I I1 := hs.K rfl
  cases hq : tk m 4 30 p e with
  | none =>
    rw [hq] at ht
    have ht : r = 0 := ht
    subst ht
    exact ⟨fun c => absurd rfl c, fun _ => ⟨rfl, rfl, hs', by rw [hq]⟩⟩
  | some q =>
    rw [hq] at ht
    obtain ⟨rfl, h4, h5, h6⟩ := ht
    exact ⟨fun _ => ⟨rfl, rfl, (hs'.put rfl).put rfl, by rw [hq]; exact ⟨rfl, h4, h5, h6⟩⟩, fun c => absurd c (by decide)⟩
set_option maxRecDepth 20000 in
theorem c_RF_keepC {l : Launch} {V : xV} {I : xIt} {J : xJt} {P : xPt} (hL : xL P) : xMet l V y_RF_keepC 1 0 0 [xq (some 250), xi 1] xS0 I J P (xPi (fun r I' J' P' => J = J' ∧ P = P' ∧ r = 1 ∧ I' = xu (xu I 250 16 (I 250 4)) 250 17 (I 250 5))) :=
  e_RF_keepC (b_RF_keepC_0 hL ⟨Or.inr rfl, rfl, rfl, rfl, rfl⟩)
/-- texts one behind the other from p to e, at most k of them -/
def vl (m : Nat → Nat) : Nat → Nat → Nat → Option (List (Nat × Nat))
  | 0, p, e => if e ≤ p then some [] else none
  | k + 1, p, e => if e ≤ p then some [] else match tk m 4 30 p e with
    | some q => (vl m k q.2 e).map (fun t => q :: t)
    | none => none
def xVs (I : xIt) (L : List (Nat × Nat)) : Prop := ∀ (i : Nat) (q : Nat × Nat), L[i]? = some q → I 252 i = nI q.1 ∧ I 253 i = nI q.2
def QV (m : Nat → Nat) (p e : Nat) (I : xIt) (J : xJt) (P : xPt) : Int32 → xIt → xJt → xPt → Prop := fun r I' J' P' => J = J' ∧ P = P' ∧ xsm (dF [3, 4, 5, 6, 18] [252, 253]) I I' ∧ match vl m 8 p e with
  | some L => r = 1 ∧ L.length ≤ 8 ∧ I' 250 18 = nI L.length ∧ xVs I' L
  | none => r = 0
set_option maxRecDepth 20000 in
theorem c_RF_listValues {l : Launch} {V : xV} {I : xIt} {J : xJt} {P : xPt} {m : Nat → Nat} {p e : Nat} (hL : xL P) (hm : xMs I 251 m e) (he : e ≤ 160) (hp : p < 900) : xMet l V y_RF_listValues 3 0 0 [xq (some 250), xi (nI p), xi (nI e)] xS0 I J P (xPi (QV m p e I J P)) := by
  have loop : ∀ (k : Nat) (L0 : List (Nat × Nat)) (p1 : Nat) (I1 : xIt), L0.length + k = 8 → p1 < 900 → xsm (dF [3, 4, 5, 6, 18] [252, 253]) I I1 → I1 250 6 = nI p1 → I1 250 18 = nI L0.length → xVs I1 L0 → (vl m 8 p e = (vl m k p1 e).map (fun t => L0 ++ t)) → G_RF_listValues l V (QV m p e I J P) 10 [(0, xq (some 250)), (1, xi (nI p)), (2, xi (nI e))] [] I1 J P := by
    intro k
    induction k with
    | zero =>
      intro L0 p1 I1 hk hp1 hs h6 h18 hV hv
      refine b_RF_listValues_10 hL ?_
      rw [h6]
      refine pk_le e p1 (fun c => ⟨rfl, rfl, hs, ?_⟩) (fun c => ⟨QK m 4 30 p1 e I1 J P, c_RF_take hL (hm.sm hs (fun j => rfl)) he (by omega) (by decide) (by decide) h6, ?_⟩)
      · rw [hv]
        simp only [vl, if_pos c, Option.map_some, List.append_nil]
        exact ⟨trivial, by omega, h18, hV⟩
      · rintro r I2 _ _ ⟨rfl, rfl, hs2, ht⟩
        have hs3 := hs.trans (hs2.K (as := [252, 253]) (ks := [3, 4, 5, 6, 18]) rfl)
        have h18' : I2 250 18 = 8 := (hs2 250 18 rfl).trans (by rw [h18, show L0.length = 8 by omega]; rfl)
        have hn : vl m 8 p e = none := by
          rw [hv]
          simp only [vl, if_neg (show ¬ e ≤ p1 by omega), Option.map_none]
        refine ⟨fun _ => ⟨rfl, rfl, hs3, by rw [hn]⟩, fun _ => ⟨fun c2 => absurd h18' c2, fun _ => ⟨rfl, rfl, hs3, by rw [hn]⟩⟩⟩
    | succ k ih =>
      intro L0 p1 I1 hk hp1 hs h6 h18 hV hv
      refine b_RF_listValues_10 hL ?_
      rw [h6]
      refine pk_le e p1 (fun c => ⟨rfl, rfl, hs, ?_⟩) (fun c => ⟨QK m 4 30 p1 e I1 J P, c_RF_take hL (hm.sm hs (fun j => rfl)) he (by omega) (by decide) (by decide) h6, ?_⟩)
      · rw [hv]
        simp only [vl, if_pos c, Option.map_some, List.append_nil]
        exact ⟨trivial, by omega, h18, hV⟩
      · rintro r I2 _ _ ⟨rfl, rfl, hs2, ht⟩
        have hs3 := hs.trans (hs2.K (as := [252, 253]) (ks := [3, 4, 5, 6, 18]) rfl)
        have h18' : I2 250 18 = nI L0.length := (hs2 250 18 rfl).trans h18
        have hV2 : xVs I2 L0 := fun i q hi => ⟨(hs2 252 i rfl).trans (hV i q hi).1, (hs2 253 i rfl).trans (hV i q hi).2⟩
        cases hq : tk m 4 30 p1 e with
        | none =>
          rw [hq] at ht
          have ht : r = 0 := ht
          subst ht
          have hn : vl m 8 p e = none := by
            rw [hv]
            simp only [vl, if_neg (show ¬ e ≤ p1 by omega), hq, Option.map_none]
          exact ⟨fun _ => ⟨rfl, rfl, hs3, by rw [hn]⟩, fun c2 => absurd rfl c2⟩
        | some q =>
          obtain ⟨f, u⟩ := q
          rw [hq] at ht
          obtain ⟨rfl, h4, h5, h6'⟩ := ht
          have b := tk_bd hq
          refine ⟨fun c2 => absurd c2 (by decide), fun _ => ?_⟩
          rw [h18', h4, h5, nI_1, pk_cl L0.length]
          refine (pk_eq L0.length 8 (fun c2 => by omega) (fun c2 => ⟨pk_in L0.length 8 (by omega), pk_in L0.length 8 (by omega), ?_⟩)).symm
          refine ih (L0 ++ [(f, u)]) u _ (by simp; omega) (by omega) (((hs3.put rfl).put rfl).put rfl) h6' ?_ ?_ ?_
          · show nI (L0.length + 1) = _
            simp
          · intro i q hi
            by_cases hil : i < L0.length
            · rw [List.getElem?_append_left hil] at hi
              have h7 := hV2 i q hi
              refine ⟨?_, ?_⟩
              · rw [xu_other (by omega), xu_other (by omega), xu_other (by omega)]; exact h7.1
              · rw [xu_other (by omega), xu_other (by omega), xu_other (by omega)]; exact h7.2
            · rw [List.getElem?_append_right (by omega)] at hi
              have h8 : i = L0.length := by
                have := (List.getElem?_eq_some_iff.mp hi).1
                simp at this
                omega
              subst h8
              simp at hi
              subst hi
              refine ⟨?_, ?_⟩
              · rw [xu_other (by omega), xu_other (by omega), xu_at]
              · rw [xu_other (by omega), xu_at]
          · rw [hv]
            simp only [vl, if_neg (show ¬ e ≤ p1 by omega), hq]
            cases vl m k u e <;> simp
  refine e_RF_listValues (b_RF_listValues_0 hL ?_)
  refine loop 8 [] p _ rfl hp ((xsm.rfl.put rfl).put rfl) rfl rfl (fun i q hi => by simp at hi) ?_
  cases vl m 8 p e <;> rfl

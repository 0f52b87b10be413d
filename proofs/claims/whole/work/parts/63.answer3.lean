/-! the class's answer: names, entries, eight bytes -/
theorem nmj_app {P0 : List (Nat × List Nat)} (h : P0 ≠ []) (Q : List (Nat × List Nat)) : nmj (P0 ++ Q) = nmj P0 ++ Q.flatMap (fun q => 44 :: ptb q.1 q.2) := by
  cases P0 with
  | nil => exact absurd rfl h
  | cons p r => simp [nmj]
theorem msc_len {v : List Nat} : (msc v).length ≤ 2 * v.length := by
  induction v with
  | nil => simp [msc]
  | cons c v ih =>
    simp only [msc, List.flatMap_cons, List.length_append, List.length_cons] at ih ⊢
    split <;> simp only [List.length_cons, List.length_nil] <;> omega
theorem ptb_len {t : Nat} {v : List Nat} (h : v.length ≤ 6) : (ptb t v).length ≤ 14 := by
  have := msc_len (v := v)
  simp only [ptb, List.length_append, List.length_cons, List.length_nil]
  omega
theorem nmj_len {L : List (Nat × List Nat)} (h3 : L.length ≤ 3) (hv : ∀ p ∈ L, p.2.length ≤ 6) : (nmj L).length ≤ 44 := by
  match L, h3, hv with
  | [], _, _ => simp [nmj]
  | [a], _, hv =>
    have h1 := ptb_len (t := a.1) (hv a (by simp))
    simp [nmj]; omega
  | [a, b], _, hv =>
    have h1 := ptb_len (t := a.1) (hv a (by simp))
    have h2 := ptb_len (t := b.1) (hv b (by simp))
    simp [nmj]; omega
  | [a, b, c], _, hv =>
    have h1 := ptb_len (t := a.1) (hv a (by simp))
    have h2 := ptb_len (t := b.1) (hv b (by simp))
    have h4 := ptb_len (t := c.1) (hv c (by simp))
    simp [nmj]; omega
theorem pts_ok {D : List Ent} (hW : wf D) : ∀ (n : Nat) (u : Option Nat), (pts D n u).length ≤ n ∧ ∀ p ∈ pts D n u, p.2.length ≤ 6 := by
  intro n
  induction n with
  | zero => intro u; simp [pts]
  | succ n ih =>
    intro u
    cases u with
    | none => simp [pts]
    | some e =>
      cases hx : D[e]? with
      | none => simp [pts, hx]
      | some x =>
        have h := ih x.2.2.2
        have hw := (hW e x hx).1
        simp only [pts, hx]
        refine ⟨by simp; exact h.1, fun p hp => ?_⟩
        rcases List.mem_cons.mp hp with rfl | hp
        · exact hw.2.2.1
        · exact h.2 p hp
section XAN3
variable {l : Launch} {V : xV} {I : xIt} {J : xJt} {P : xPt} {W : List Nat} {o : Nat → Nat} {D : List Ent}
theorem xTr.so {I' : xIt} (h : xTr I J P o D) (hs : xSo I I') : xTr I' J P o D := h.keep (fun b k h1 h2 => hs b k (by omega) (by omega)) (fun _ _ _ _ => rfl) (fun _ _ _ _ => rfl)
set_option maxRecDepth 20000 in
theorem c_AN_writeName {e : Nat} (hL : xL P) (hO : xOt I W) (hT : xTr I J P o D) (hW : wf D) (he : e < D.length) (hr : (W ++ enc 4 (nmj (pts D 3 (some e)))).length ≤ 1767) : xMet l V y_AN_writeName 3 0 0 [xq (some 248), xq (some (o e))] xS0 I J P (xPv (Qo (W ++ enc 4 (nmj (pts D 3 (some e)))) I J P)) := by
  have h12 := hT.2.1
  have hpo := pts_ok hW 3 (some e)
  have hn44 := nmj_len hpo.1 hpo.2
  have he1 := enc_len 4 (nmj (pts D 3 (some e)))
  rw [if_pos (by omega)] at he1
  rw [List.length_append] at hr
  have fin : ∀ (I1 : xIt) (P0 : List (Nat × List Nat)), xSo I I1 → pts D 3 (some e) = P0 → xOt I1 (W ++ nmj P0) → ∃ Q1 : xIt → xJt → xPt → Prop, xMet l V y_AN_wrap 1 0 0 [xq (some 248), xi 4, xi (nI W.length)] xS0 I1 J P (xPv Q1) ∧ ∀ I2 J2 P2, Q1 I2 J2 P2 → Qo (W ++ enc 4 (nmj (pts D 3 (some e)))) I J P I2 J2 P2 := by
    intro I1 P0 hs hP0 hO1
    rw [← hP0] at hO1
    refine ⟨_, c_AN_wrap (g := 4) hL hO1 (by omega) (by rw [List.length_append]; exact hr), ?_⟩
    rintro I2 _ _ ⟨rfl, rfl, hs2, hO2⟩
    exact ⟨rfl, rfl, hs.trans hs2, hO2⟩
  have loop : ∀ (k j : Nat) (u : Option Nat) (P0 : List (Nat × List Nat)) (I1 : xIt), j + k = 3 → P0.length = j → (∀ w, u = some w → w < D.length) → pts D 3 (some e) = P0 ++ pts D k u → xSo I I1 → xOt I1 (W ++ nmj P0) → G_AN_writeName l V (Qo (W ++ enc 4 (nmj (pts D 3 (some e)))) I J P) 10 [(0, xq (some 248)), (1, xq (some (o e))), (2, xi (nI W.length)), (3, xq (u.map o)), (4, xi (nI j))] [] I1 J P := by
    intro k
    induction k with
    | zero =>
      intro j u P0 I1 hj hlen hu hpt hs hO1
      refine b_AN_writeName_10 hL (pk_le 3 j (fun _ => ?_) (fun z => by omega))
      exact fin I1 P0 hs (by rw [hpt, pts, List.append_nil]) hO1
    | succ k ih =>
      intro j u P0 I1 hj hlen hu hpt hs hO1
      refine b_AN_writeName_10 hL (pk_le 3 j (fun z => by omega) (fun _ => ?_))
      cases u with
      | none =>
        refine ⟨fun _ => ?_, fun z => absurd rfl z⟩
        exact fin I1 P0 hs (by rw [hpt, pts, List.append_nil]) hO1
      | some w =>
        have hwl := hu w rfl
        obtain ⟨x, hx⟩ : ∃ x, D[w]? = some x := ⟨_, List.getElem?_eq_getElem hwl⟩
        have hw := hW w x hx
        have how := hT.2.2.1 w (by omega)
        have h5 : x.2.1 < 5 := by have := hw.1.2.1; omega
        have hpt2 : pts D 3 (some e) = (P0 ++ [(x.2.1, x.2.2.1)]) ++ pts D k x.2.2.2 := by rw [hpt, pts, hx]; simp
        have hu2 : ∀ w', x.2.2.2 = some w' → w' < D.length := fun w' hw' => by have := hw.2 w' hw'; omega
        refine ⟨fun z => (by cases z), fun _ => pk_le j 0 (fun z => ?_) (fun z => ?_)⟩
        · have hP0 : P0 = [] := List.eq_nil_of_length_eq_zero (by omega)
          subst hP0
          have hle : (ptb x.2.1 x.2.2.1).length ≤ (nmj (pts D 3 (some e))).length := by rw [hpt2]; simp [nmj]
          have hE := (hT.so hs).2.2.2.2 w x hx
          refine ⟨o w, rfl, how.2.1, ?_⟩
          rw [hE.2.1, hE.2.2.2.1, nI_1]
          refine ⟨_, c_AN_writePart hL hO1 h5 hw.1.2.2 (by simp only [List.length_append, nmj, List.length_nil]; omega), ?_⟩
          rintro I2 _ _ ⟨rfl, rfl, hs2, hO2⟩
          rw [hE.2.2.2.2]
          refine ih (j + 1) x.2.2.2 _ I2 (by omega) (by simp; omega) hu2 hpt2 (hs.trans hs2) ?_
          simpa [nmj] using hO2
        · have hP0 : P0 ≠ [] := fun h => by rw [h] at hlen; simp at hlen; omega
          have hn1 : nmj (P0 ++ [(x.2.1, x.2.2.1)]) = nmj P0 ++ 44 :: ptb x.2.1 x.2.2.1 := by rw [nmj_app hP0]; simp
          have hle : (nmj P0).length + 1 + (ptb x.2.1 x.2.2.1).length ≤ (nmj (pts D 3 (some e))).length := by
            rw [hpt2, nmj_app (by simp), hn1]
            simp only [List.length_append, List.length_cons]
            omega
          refine ⟨_, c_AN_put (b := 44) hL hO1 (by simp only [List.length_append]; omega), ?_⟩
          rintro I2 _ _ ⟨rfl, rfl, hs2, hO2⟩
          have hE := (hT.so (hs.trans hs2)).2.2.2.2 w x hx
          refine ⟨o w, rfl, how.2.1, ?_⟩
          rw [hE.2.1, hE.2.2.2.1, nI_1]
          refine ⟨_, c_AN_writePart hL hO2 h5 hw.1.2.2 (by simp only [List.length_append, List.length_cons, List.length_nil]; omega), ?_⟩
          rintro I3 _ _ ⟨rfl, rfl, hs3, hO3⟩
          rw [hE.2.2.2.2]
          refine ih (j + 1) x.2.2.2 _ I3 (by omega) (by simp; omega) hu2 hpt2 (hs.trans (hs2.trans hs3)) ?_
          rw [hn1]
          simpa using hO3
  refine e_AN_writeName (b_AN_writeName_0 hL ?_)
  rw [hO.1]
  exact loop 3 0 (some e) [] I rfl rfl (fun w hw => by cases hw; exact he) rfl xSo.rfl (by simpa [nmj] using hO)
theorem rwb_succ (A : Nat → List Vl) (n : Nat) : rwb A (n + 1) = rwb A n ++ rwt A n := by simp [rwb, List.range_succ]
theorem rwb_le (A : Nat → List Vl) : ∀ (k n : Nat), (rwb A n).length ≤ (rwb A (n + k)).length := by
  intro k
  induction k with
  | zero => intro n; exact Nat.le_refl _
  | succ k ih =>
    intro n
    rw [show n + (k + 1) = (n + k) + 1 by omega, rwb_succ, List.length_append]
    have := ih n
    omega
set_option maxRecDepth 20000 in
theorem c_AN_writeEntry {d e : Nat} {x : Ent} (hL : xL P) (hO : xOt I W) (hT : xTr I J P o D) (hW : wf D) (hx : D[e]? = some x) (hd : d < 32768) (h88 : (rwb x.1 5).length ≤ 88) (hr : (W ++ enb D d e x).length ≤ 1767) : xMet l V y_AN_writeEntry 4 0 0 [xq (some 248), xi (nI d), xq (some (o e))] xS0 I J P (xPv (Qo (W ++ enb D d e x) I J P)) := by
  have h12 := hT.2.1
  have hel := (List.getElem?_eq_some_iff.mp hx).1
  have hw := (hW e x hx).1
  have hoe := hT.2.2.1 e (by omega)
  have hpo := pts_ok hW 3 (some e)
  have hn44 := nmj_len hpo.1 hpo.2
  have hid := idb_len d
  have e1 := enc_len 4 (nmj (pts D 3 (some e)))
  rw [if_pos (by omega)] at e1
  have e2 := enc_len 48 (rwb x.1 5)
  rw [if_pos (by omega)] at e2
  have e3 := enc_le 100 (enc 4 (nmj (pts D 3 (some e))) ++ enc 48 (rwb x.1 5))
  have e3' := enc_len 100 (enc 4 (nmj (pts D 3 (some e))) ++ enc 48 (rwb x.1 5))
  have e4 := enc_le 48 (idb d ++ enc 100 (enc 4 (nmj (pts D 3 (some e))) ++ enc 48 (rwb x.1 5)))
  have e3'' : (enc 100 (enc 4 (nmj (pts D 3 (some e))) ++ enc 48 (rwb x.1 5))).length ≤ (enc 4 (nmj (pts D 3 (some e))) ++ enc 48 (rwb x.1 5)).length + 3 := by rw [e3']; split <;> omega
  rw [List.length_append] at hr e3 e4 e3''
  unfold enb at hr
  have loop : ∀ (k j : Nat) (I1 : xIt), j + k = 5 → xSo I I1 → xOt I1 ((W ++ (idb d ++ enc 4 (nmj (pts D 3 (some e))))) ++ rwb x.1 j) → G_AN_writeEntry l V (Qo (W ++ enb D d e x) I J P) 30 [(0, xq (some 248)), (1, xi (nI d)), (2, xq (some (o e))), (3, xi (nI W.length)), (4, xi (nI (W ++ idb d).length)), (5, xi (nI (W ++ (idb d ++ enc 4 (nmj (pts D 3 (some e))))).length)), (6, xi (nI j))] [] I1 J P := by
    intro k
    induction k with
    | zero =>
      intro j I1 hj hs hO1
      have : j = 5 := by omega
      subst this
      refine b_AN_writeEntry_30 hL (pk_le 5 5 (fun _ => ⟨_, c_AN_wrap (g := 48) hL hO1 (by omega) (by simp only [List.length_append]; omega), ?_⟩) (fun z => by omega))
      rintro I2 _ _ ⟨rfl, rfl, hs2, hO2⟩
      have eq2 : W ++ (idb d ++ enc 4 (nmj (pts D 3 (some e)))) ++ enc 48 (rwb x.1 5) = (W ++ idb d) ++ (enc 4 (nmj (pts D 3 (some e))) ++ enc 48 (rwb x.1 5)) := by simp
      rw [eq2] at hO2
      refine ⟨_, c_AN_wrap (g := 100) hL hO2 (by rw [List.length_append]; omega) (by simp only [List.length_append] at e3 e4 ⊢; omega), ?_⟩
      rintro I3 _ _ ⟨rfl, rfl, hs3, hO3⟩
      rw [List.append_assoc] at hO3
      refine ⟨_, c_AN_wrap (g := 48) hL hO3 (by rw [List.length_append]; omega) (by rw [List.length_append]; exact hr), ?_⟩
      rintro I4 _ _ ⟨rfl, rfl, hs4, hO4⟩
      exact ⟨rfl, rfl, hs.trans (hs2.trans (hs3.trans hs4)), hO4⟩
    | succ k ih =>
      intro j I1 hj hs hO1
      have hj5 : j < 5 := by omega
      have hro := en_row hL hoe.2.1 hj5
      have hE := (hT.so hs).2.2.2.2 e x hx
      have hRj := hE.1 j hj5
      have hwj := hw.1 j hj5
      have hmo : mo j ≤ 3 := by unfold mo; split <;> omega
      have hsu := rwb_succ x.1 j
      have hle := rwb_le x.1 k (j + 1)
      rw [show j + 1 + k = 5 by omega, hsu, List.length_append] at hle
      refine b_AN_writeEntry_30 hL (pk_le 5 j (fun z => by omega) (fun _ => ⟨o e, rfl, hoe.2.1, pk_in j 5 hj5, 0 + (o e + 2 + 3 * j), ?_⟩))
      rw [ncl j, nI_1, hro.1, Nat.zero_add]
      refine ⟨rfl, hro.2, pk_le (x.1 j).length 0 (fun z => ?_) (fun z => ⟨pk_in j 5 hj5, ?_⟩) (hRj.1.trans (by rw [pkr_len])) rfl (by have := hwj.2.1; omega) (by omega)⟩
      · refine ih (j + 1) I1 (by omega) hs ?_
        rw [hsu, rwt, if_neg (by omega), List.append_nil]
        exact hO1
      · have hrt : rwt x.1 j = atb j (x.1 j) := by rw [rwt, if_pos (by omega)]
        rw [hrt] at hle hsu
        refine ⟨_, c_AN_writeAttribute hL hO1 hj5 hro.2 hRj (by have := hwj.2.1; omega) (fun v hv => ⟨(hwj.1 v hv).1, (hwj.1 v hv).2.1⟩) (by simp only [List.length_append]; omega), ?_⟩
        rintro I2 _ _ ⟨rfl, rfl, hs2, hO2⟩
        refine ih (j + 1) I2 (by omega) (hs.trans hs2) ?_
        rw [hsu, ← List.append_assoc]
        exact hO2
  refine e_AN_writeEntry (b_AN_writeEntry_0 hL ⟨_, c_AN_writeId hL hO hd (by rw [List.length_append]; omega), ?_⟩)
  rintro I1 _ _ ⟨rfl, rfl, hs1, hO1⟩
  refine ⟨_, c_AN_writeName hL hO1 (hT.so hs1) hW hel (by simp only [List.length_append]; omega), ?_⟩
  rintro I2 _ _ ⟨rfl, rfl, hs2, hO2⟩
  rw [List.append_assoc] at hO2
  rw [hO.1, hO1.1, hO2.1]
  exact loop 5 0 I2 rfl (hs1.trans hs2) (by simpa [rwb] using hO2)
/-- eight bytes of an output, as both write them -/
def o8 (W : List Nat) : Nat → Nat → Int64 → Int64
  | 0, _, v => v
  | n + 1, j, v => o8 W n (j + 1) ((v <<< ((8 : Int32).toInt64 &&& 63)) ||| ((nI (W.getD j 0)).toInt64))
def o8k (W : List Nat) (k : Int32) : Int64 := if k < 0 ∨ nI 256 ≤ k then 0 else o8 W 8 (8 * k.toNatClampNeg) 0
theorem o8_out {W : List Nat} : ∀ (n j : Nat), W.length ≤ j → o8 W n j 0 = 0 := by
  intro n
  induction n with
  | zero => intro j _; rfl
  | succ n ih =>
    intro j hj
    rw [o8, List.getD_eq_getElem?_getD, List.getElem?_eq_none hj]
    have : ((0 : Int64) <<< ((8 : Int32).toInt64 &&& 63)) ||| ((nI ((none : Option Nat).getD 0)).toInt64) = 0 := by decide
    rw [this]
    exact ih (j + 1) (by omega)
set_option maxRecDepth 20000 in
theorem c_AN_eightBytes {k : Int32} (hL : xL P) (hO : xOt I W) : xMet l V y_AN_eightBytes 1 0 0 [xq (some 248), xi k] xS0 I J P (xPl (fun r I' J' P' => I = I' ∧ J = J' ∧ P = P' ∧ r = o8k W k)) := by
  have hl := hO.2.1
  have loop : ∀ (n j i : Nat) (v : Int64), i ≤ 256 → j + n = 8 * i + 8 → o8k W k = o8 W n j v → k = nI i → G_AN_eightBytes l V (fun r I' J' P' => I = I' ∧ J = J' ∧ P = P' ∧ r = o8k W k) 25 [(0, xq (some 248)), (1, xi k), (2, xj v), (4, xi (nI j))] [] I J P := by
    intro n
    induction n with
    | zero =>
      intro j i v hi hj hx hk
      subst hk
      refine b_AN_eightBytes_25 hL ?_
      rw [show (8 : Int32) = nI 8 from rfl, pk_mul, nI_add, hO.1]
      exact pk_le (8 * i + 8) j (fun _ => ⟨rfl, rfl, rfl, hx.symm⟩) (fun z => by omega)
    | succ n ih =>
      intro j i v hi hj hx hk
      have hk' := hk
      subst hk
      refine b_AN_eightBytes_25 hL ?_
      rw [hO.1, nI_1]
      refine pk_le (8 * i + 8) j (fun z => by omega) (fun _ => pk_le W.length j (fun z => ?_) (fun z => ⟨pk_in j 1767 (by omega), ?_⟩)) (by rw [show (8 : Int32) = nI 8 from rfl, pk_mul, nI_add])
      · refine ih (j + 1) i _ hi (by omega) ?_ rfl
        rw [hx, o8, List.getD_eq_getElem?_getD, List.getElem?_eq_none z]
        rfl
      · rw [ncl j]
        have hg := List.getElem?_eq_getElem z
        rw [hO.2.2 j _ hg]
        refine ih (j + 1) i _ hi (by omega) ?_ rfl
        rw [hx, o8, List.getD_eq_getElem?_getD, hg]
        rfl
  refine e_AN_eightBytes (b_AN_eightBytes_0 hL ?_)
  rw [hO.1, show (8 : Int32) = nI 8 from rfl, pk_div (by omega) (by omega) (by omega)]
  refine ⟨fun z => ⟨rfl, rfl, rfl, by rw [o8k, if_pos (Or.inl z)]⟩, fun z => ?_⟩
  obtain ⟨i, hi, rfl⟩ := nI_of z
  rw [pk_mul]
  refine pk_le i (W.length / 8) (fun z2 => ?_) (fun z2 => ⟨rfl, rfl, rfl, ?_⟩)
  · refine loop 8 (8 * i) i 0 (by omega) rfl ?_ rfl
    rw [o8k, if_neg (fun h => h.elim z (fun h => by have := (nI_leI (by omega) (by omega)).mp h; omega)), ncl i]
  · unfold o8k
    split
    · rfl
    · rw [ncl i, o8_out 8 (8 * i) (by omega)]
end XAN3

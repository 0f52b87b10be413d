/-! the reference: values come, go and are copied -/
section XRV4
variable {l : Launch} {V : xV} {I : xIt} {J : xJt} {P : xPt} {g : List Nat}
set_option maxRecDepth 20000 in
theorem c_RF_append {e t k : Nat} {R : List Vl} {p : List Nat} (hL : xL P) (hR : xRr I (5 * e + t) R) (hg : xGv I g) (hf : xFm I k p) (he : e < 13) (ht : t < 5) (hk : k < 5) (hgl : g.length ≤ 6) (hp : p.length ≤ 6) (h3 : R.length < 3) : xMet l V y_RF_append 1 0 0 [xq (some 250), xi (nI e), xi (nI t), xi (nI k), xi (nI p.length)] xS0 I J P (xPv (fun I' J' P' => J = J' ∧ P = P' ∧ (∀ a j, ¬ cr (5 * e + t) a j → I' a j = I a j) ∧ xRr I' (5 * e + t) (R ++ [(g, p)]))) := by
  have hcnt := hR.2.1
  have hss : 15 * e + 3 * t + R.length = 3 * (5 * e + t) + R.length := by omega
  -- the plain bytes
  have l2 : ∀ (n j : Nat) (I1 : xIt), j + n = p.length → (∀ a i, ¬ cv (3 * (5 * e + t) + R.length) a i → I1 a i = I a i) → I1 259 (3 * (5 * e + t) + R.length) = nI g.length → I1 261 (3 * (5 * e + t) + R.length) = nI p.length → xBy I1 260 (6 * (3 * (5 * e + t) + R.length)) g → xBy I1 262 (6 * (3 * (5 * e + t) + R.length)) (p.take j) → G_RF_append l V (fun I' J' P' => J = J' ∧ P = P' ∧ (∀ a j, ¬ cr (5 * e + t) a j → I' a j = I a j) ∧ xRr I' (5 * e + t) (R ++ [(g, p)])) 82 [(0, xq (some 250)), (1, xi (nI e)), (2, xi (nI t)), (3, xi (nI k)), (4, xi (nI p.length)), (5, xi (nI (15 * e + 3 * t + R.length))), (6, xi (nI j))] [] I1 J P := by
    intro n
    induction n with
    | zero =>
      intro j I1 hj hI h1 h2 hb1 hb2
      refine b_RF_append_82 hL (pk_le p.length j (fun _ => ?_) (fun z => by omega))
      rw [nI_5m, nI_add, ncl (5 * e + t), hI 258 (5 * e + t) (by unfold cv; omega), hcnt, nI_1]
      refine ⟨pk_in (5 * e + t) 65 (by omega), pk_in (5 * e + t) 65 (by omega), rfl, rfl, fun a i hc => ?_, by simp; omega, ?_, fun q v hq => ?_⟩
      · rw [xu_other (by unfold cr at hc; omega)]
        exact hI a i (fun h => hc (by unfold cv at h; unfold cr; omega))
      · rw [xu_at]; simp
      · rw [List.take_of_length_le (by omega)] at hb2
        by_cases hql : q < R.length
        · rw [List.getElem?_append_left hql] at hq
          exact (hR.2.2 q v hq).keep (fun a i hc => (xu_other (by unfold cv at hc; omega)).trans (hI a i (by unfold cv at hc ⊢; omega)))
        · rw [List.getElem?_append_right (by omega)] at hq
          have h8 : q = R.length := by
            have := (List.getElem?_eq_some_iff.mp hq).1
            simp at this
            omega
          subst h8
          simp at hq
          subst hq
          exact ⟨⟨hgl, hp⟩, (xu_other (by omega)).trans h1, (xu_other (by omega)).trans h2, hb1.far (fun i _ _ => xu_other (by omega)), hb2.far (fun i _ _ => xu_other (by omega))⟩
    | succ n ih =>
      intro j I1 hj hI h1 h2 hb1 hb2
      have hjl : j < p.length := by omega
      refine b_RF_append_82 hL (pk_le p.length j (fun z => by omega) (fun _ => ?_))
      have hfj : I1 255 (8 * k + j) = nI p[j] := (hI 255 _ (by unfold cv; omega)).trans (hf j _ (List.getElem?_eq_getElem hjl))
      rw [nI_8m, nI_6m, nI_add, nI_add, nI_1, ncl (8 * k + j), ncl (6 * (15 * e + 3 * t + R.length) + j), hfj]
      refine ⟨pk_in (8 * k + j) 40 (by omega), pk_in (6 * (15 * e + 3 * t + R.length) + j) 1170 (by omega), ih (j + 1) _ (by omega) (fun a i hc => ?_) ((xu_other (by omega)).trans h1) ((xu_other (by omega)).trans h2) (hb1.far (fun i _ _ => xu_other (by omega))) (fun i b hi => ?_)⟩
      · rw [xu_other (by unfold cv at hc; omega)]; exact hI a i hc
      · rw [List.take_succ, List.getElem?_eq_getElem hjl] at hi
        by_cases hij : i < j
        · rw [List.getElem?_append_left (by rw [List.length_take]; omega)] at hi
          rw [xu_other (by omega)]; exact hb2 i b hi
        · rw [List.getElem?_append_right (by rw [List.length_take]; omega)] at hi
          have h8 : i = j := by
            have := (List.getElem?_eq_some_iff.mp hi).1
            simp at this
            omega
          subst h8
          rw [List.length_take, Nat.min_eq_left (by omega), Nat.sub_self] at hi
          simp at hi
          subst hi
          rw [show 6 * (3 * (5 * e + t) + R.length) + i = 6 * (15 * e + 3 * t + R.length) + i by omega, xu_at]
  -- the given bytes
  have l1 : ∀ (n j : Nat) (I1 : xIt), j + n = g.length → (∀ a i, ¬ cv (3 * (5 * e + t) + R.length) a i → I1 a i = I a i) → I1 259 (3 * (5 * e + t) + R.length) = nI g.length → I1 261 (3 * (5 * e + t) + R.length) = nI p.length → xBy I1 260 (6 * (3 * (5 * e + t) + R.length)) (g.take j) → G_RF_append l V (fun I' J' P' => J = J' ∧ P = P' ∧ (∀ a j, ¬ cr (5 * e + t) a j → I' a j = I a j) ∧ xRr I' (5 * e + t) (R ++ [(g, p)])) 44 [(0, xq (some 250)), (1, xi (nI e)), (2, xi (nI t)), (3, xi (nI k)), (4, xi (nI p.length)), (5, xi (nI (15 * e + 3 * t + R.length))), (6, xi (nI j))] [] I1 J P := by
    intro n
    induction n with
    | zero =>
      intro j I1 hj hI h1 h2 hb1
      have h21 : I1 250 21 = nI g.length := (hI 250 21 (by unfold cv; omega)).trans hg.1
      rw [List.take_of_length_le (by omega)] at hb1
      refine b_RF_append_44 hL (pk_le g.length j (fun _ => ?_) (fun z => by omega) h21)
      exact l2 p.length 0 I1 (by omega) hI h1 h2 hb1 (fun i b hi => by simp at hi)
    | succ n ih =>
      intro j I1 hj hI h1 h2 hb1
      have h21 : I1 250 21 = nI g.length := (hI 250 21 (by unfold cv; omega)).trans hg.1
      have hjl : j < g.length := by omega
      have hgj : I1 254 j = nI g[j] := by
        have := hg.2 j _ (List.getElem?_eq_getElem hjl)
        rw [Nat.zero_add] at this
        exact (hI 254 _ (by unfold cv; omega)).trans this
      refine b_RF_append_44 hL (pk_le g.length j (fun z => by omega) (fun _ => ?_) h21)
      rw [nI_6m, nI_add, nI_1, ncl j, ncl (6 * (15 * e + 3 * t + R.length) + j), hgj]
      refine ⟨pk_in j 32 (by omega), pk_in (6 * (15 * e + 3 * t + R.length) + j) 1170 (by omega), ih (j + 1) _ (by omega) (fun a i hc => ?_) ((xu_other (by omega)).trans h1) ((xu_other (by omega)).trans h2) (fun i b hi => ?_)⟩
      · rw [xu_other (by unfold cv at hc; omega)]; exact hI a i hc
      · rw [List.take_succ, List.getElem?_eq_getElem hjl] at hi
        by_cases hij : i < j
        · rw [List.getElem?_append_left (by rw [List.length_take]; omega)] at hi
          rw [xu_other (by omega)]; exact hb1 i b hi
        · rw [List.getElem?_append_right (by rw [List.length_take]; omega)] at hi
          have h8 : i = j := by
            have := (List.getElem?_eq_some_iff.mp hi).1
            simp at this
            omega
          subst h8
          rw [List.length_take, Nat.min_eq_left (by omega), Nat.sub_self] at hi
          simp at hi
          subst hi
          rw [show 6 * (3 * (5 * e + t) + R.length) + i = 6 * (15 * e + 3 * t + R.length) + i by omega, xu_at]
  refine e_RF_append (b_RF_append_0 hL ?_)
  rw [nI_5m, nI_15m, nI_3m, nI_add, nI_add, ncl (5 * e + t), hcnt, nI_add, ncl (15 * e + 3 * t + R.length), hg.1]
  refine ⟨pk_in (5 * e + t) 65 (by omega), pk_in (15 * e + 3 * t + R.length) 195 (by omega), pk_in (15 * e + 3 * t + R.length) 195 (by omega), l1 g.length 0 _ (by omega) (fun a i hc => ?_) ?_ ?_ (fun i b hi => by simp at hi)⟩
  · rw [xu_other (by unfold cv at hc; omega), xu_other (by unfold cv at hc; omega)]
  · rw [xu_other (by omega), ← hss, xu_at]
  · rw [← hss, xu_at]
/-- the value's cells at b are those that stood at a -/
def Qcv (a b : Nat) (I : xIt) (J : xJt) (P : xPt) : xIt → xJt → xPt → Prop := fun I' J' P' => J = J' ∧ P = P' ∧ (∀ c j, ¬ cv b c j → I' c j = I c j) ∧ I' 259 b = I 259 a ∧ I' 261 b = I 261 a ∧ ∀ j, j < 6 → I' 260 (6 * b + j) = I 260 (6 * a + j) ∧ I' 262 (6 * b + j) = I 262 (6 * a + j)
set_option maxRecDepth 20000 in
theorem c_RF_copyValue {a b : Nat} (hL : xL P) (ha : a < 195) (hb : b < 195) (hab : a ≠ b) : xMet l V y_RF_copyValue 1 0 0 [xq (some 250), xi (nI a), xi (nI b)] xS0 I J P (xPv (Qcv a b I J P)) := by
  have loop : ∀ (n j : Nat) (I1 : xIt), j + n = 6 → (∀ c i, ¬ cv b c i → I1 c i = I c i) → I1 259 b = I 259 a → I1 261 b = I 261 a → (∀ i, i < j → I1 260 (6 * b + i) = I 260 (6 * a + i) ∧ I1 262 (6 * b + i) = I 262 (6 * a + i)) → G_RF_copyValue l V (Qcv a b I J P) 26 [(0, xq (some 250)), (1, xi (nI a)), (2, xi (nI b)), (3, xi (nI j))] [] I1 J P := by
    intro n
    induction n with
    | zero =>
      intro j I1 hj hI h1 h2 h3
      exact b_RF_copyValue_26 hL (pk_le 6 j (fun _ => ⟨rfl, rfl, hI, h1, h2, fun i hi => h3 i (by omega)⟩) (fun z => by omega))
    | succ n ih =>
      intro j I1 hj hI h1 h2 h3
      refine b_RF_copyValue_26 hL (pk_le 6 j (fun z => by omega) (fun _ => ?_))
      rw [nI_6m, nI_6m, nI_add, nI_add, nI_1, ncl (6 * a + j), ncl (6 * b + j), hI 260 (6 * a + j) (by unfold cv; omega), hI 262 (6 * a + j) (by unfold cv; omega)]
      refine ⟨pk_in (6 * a + j) 1170 (by omega), pk_in (6 * b + j) 1170 (by omega), pk_in (6 * a + j) 1170 (by omega), pk_in (6 * b + j) 1170 (by omega), ih (j + 1) _ (by omega) (fun c i hc => ?_) ((xu_other (by omega)).trans ((xu_other (by omega)).trans h1)) ((xu_other (by omega)).trans ((xu_other (by omega)).trans h2)) (fun i hi => ?_)⟩
      · rw [xu_other (by unfold cv at hc; omega), xu_other (by unfold cv at hc; omega)]; exact hI c i hc
      · by_cases hij : i = j
        · subst hij
          exact ⟨by rw [xu_other (by omega), xu_at], by rw [xu_at]⟩
        · exact ⟨by rw [xu_other (by omega), xu_other (by omega)]; exact (h3 i (by omega)).1, by rw [xu_other (by omega), xu_other (by omega)]; exact (h3 i (by omega)).2⟩
  refine e_RF_copyValue (b_RF_copyValue_0 hL ?_)
  rw [ncl a, ncl b]
  refine ⟨pk_in a 195 ha, pk_in b 195 hb, pk_in a 195 ha, pk_in b 195 hb, loop 6 0 _ rfl (fun c i hc => ?_) ?_ ?_ (fun i hi => by omega)⟩
  · rw [xu_other (by unfold cv at hc; omega), xu_other (by unfold cv at hc; omega)]
  · rw [xu_other (by omega), xu_at]
  · rw [xu_at]
theorem xVv.move {I' : xIt} {a b : Nat} {v : Vl} (h : xVv I a v) (h1 : I' 259 b = I 259 a) (h2 : I' 261 b = I 261 a) (h3 : ∀ j, j < 6 → I' 260 (6 * b + j) = I 260 (6 * a + j) ∧ I' 262 (6 * b + j) = I 262 (6 * a + j)) : xVv I' b v := by
  refine ⟨h.1, h1.trans h.2.1, h2.trans h.2.2.1, fun j c hj => ?_, fun j c hj => ?_⟩
  · have := (List.getElem?_eq_some_iff.mp hj).1
    exact (h3 j (by have := h.1; omega)).1.trans (h.2.2.2.1 j c hj)
  · have := (List.getElem?_eq_some_iff.mp hj).1
    exact (h3 j (by have := h.1; omega)).2.trans (h.2.2.2.2 j c hj)
set_option maxRecDepth 20000 in
theorem c_RF_takeAway {e t q : Nat} {R : List Vl} (hL : xL P) (hR : xRr I (5 * e + t) R) (he : e < 13) (ht : t < 5) (hq : q < R.length) : xMet l V y_RF_takeAway 2 0 0 [xq (some 250), xi (nI e), xi (nI t), xi (nI q)] xS0 I J P (xPv (fun I' J' P' => J = J' ∧ P = P' ∧ (∀ a j, ¬ cr (5 * e + t) a j → I' a j = I a j) ∧ xRr I' (5 * e + t) (R.eraseIdx q))) := by
  have hl3 := hR.1
  have hcnt := hR.2.1
  have loop : ∀ (n k : Nat) (I1 : xIt), k + n = R.length - 1 → q ≤ k → (∀ a j, ¬ cr (5 * e + t) a j → I1 a j = I a j) → I1 258 (5 * e + t) = nI (R.length - 1) → (∀ i v, i < k → (R.eraseIdx q)[i]? = some v → xVv I1 (3 * (5 * e + t) + i) v) → (∀ i v, k < i → R[i]? = some v → xVv I1 (3 * (5 * e + t) + i) v) → G_RF_takeAway l V (fun I' J' P' => J = J' ∧ P = P' ∧ (∀ a j, ¬ cr (5 * e + t) a j → I' a j = I a j) ∧ xRr I' (5 * e + t) (R.eraseIdx q)) 27 [(0, xq (some 250)), (1, xi (nI e)), (2, xi (nI t)), (3, xi (nI q)), (4, xi (nI (15 * e + 3 * t))), (5, xi (nI k))] [] I1 J P := by
    intro n
    induction n with
    | zero =>
      intro k I1 hk hqk hI hc h1 h2
      have hle : (R.eraseIdx q).length = R.length - 1 := by rw [List.length_eraseIdx, if_pos hq]
      refine b_RF_takeAway_27 hL ?_
      rw [nI_5m, nI_add, ncl (5 * e + t), hc]
      refine ⟨pk_in (5 * e + t) 65 (by omega), pk_le (R.length - 1) k (fun _ => ⟨rfl, rfl, hI, by omega, by rw [hle]; exact hc, fun i v hi => h1 i v (by have := (List.getElem?_eq_some_iff.mp hi).1; omega) hi⟩) (fun z => by omega)⟩
    | succ n ih =>
      intro k I1 hk hqk hI hc h1 h2
      refine b_RF_takeAway_27 hL ?_
      rw [nI_5m, nI_add, ncl (5 * e + t), hc, nI_add, nI_1, nI_1]
      refine ⟨pk_in (5 * e + t) 65 (by omega), pk_le (R.length - 1) k (fun z => by omega) (fun _ => ⟨_, c_RF_copyValue (a := 15 * e + 3 * t + k + 1) (b := 15 * e + 3 * t + k) hL (by omega) (by omega) (by omega), ?_⟩)⟩
      rintro I2 _ _ ⟨rfl, rfl, hI2, e1, e2, e3⟩
      have hss : 15 * e + 3 * t + k = 3 * (5 * e + t) + k := by omega
      have hss1 : 15 * e + 3 * t + k + 1 = 3 * (5 * e + t) + (k + 1) := by omega
      refine ih (k + 1) I2 (by omega) (by omega) (fun a j hcr => (hI2 a j (fun h => hcr (by unfold cv at h; unfold cr; omega))).trans (hI a j hcr)) ((hI2 258 _ (by unfold cv; omega)).trans hc) (fun i v hi hv => ?_) (fun i v hi hv => ?_)
      · by_cases hik : i = k
        · subst hik
          rw [List.getElem?_eraseIdx, if_neg (by omega)] at hv
          have := h2 (i + 1) v (by omega) hv
          rw [← hss1] at this
          rw [← hss]
          exact this.move e1 e2 e3
        · exact (h1 i v (by omega) hv).keep (fun a j hcv => hI2 a j (by unfold cv at hcv ⊢; omega))
      · exact (h2 i v (by omega) hv).keep (fun a j hcv => hI2 a j (by unfold cv at hcv ⊢; omega))
  refine e_RF_takeAway (b_RF_takeAway_0 hL ?_)
  rw [nI_5m, nI_15m, nI_3m, nI_add, nI_add, ncl (5 * e + t), hcnt, show nI R.length - 1 = nI (R.length - 1) from pk_sub (b := 1) (by omega)]
  refine ⟨pk_in (5 * e + t) 65 (by omega), pk_in (5 * e + t) 65 (by omega), loop (R.length - 1 - q) q _ (by omega) (Nat.le_refl _) (fun a j hcr => xu_other (by unfold cr at hcr; omega)) xu_at (fun i v hi hv => ?_) (fun i v hi hv => ?_)⟩
  · rw [List.getElem?_eraseIdx, if_pos hi] at hv
    exact (hR.2.2 i v hv).keep (fun a j hcv => xu_other (by unfold cv at hcv; omega))
  · exact (hR.2.2 i v hv).keep (fun a j hcv => xu_other (by unfold cv at hcv; omega))
def upI (u : Option Nat) : Int32 := match u with
  | some k => nI k
  | none => -1
/-- the entry at the place e -/
def xRe (I : xIt) (e : Nat) (x : Ent) : Prop := (∀ t, t < 5 → xRr I (5 * e + t) (x.1 t)) ∧ I 263 e = upI x.2.2.2 ∧ I 264 e = nI x.2.1 ∧ I 265 e = nI x.2.2.1.length ∧ x.2.2.1.length ≤ 6 ∧ xBy I 266 (6 * e) x.2.2.1
/-- the cells of an entry -/
def ce (e a j : Nat) : Prop := (a = 258 ∧ 5 * e ≤ j ∧ j < 5 * e + 5) ∨ ((a = 259 ∨ a = 261) ∧ 15 * e ≤ j ∧ j < 15 * e + 15) ∨ ((a = 260 ∨ a = 262) ∧ 90 * e ≤ j ∧ j < 90 * e + 90) ∨ ((a = 263 ∨ a = 264 ∨ a = 265) ∧ j = e) ∨ (a = 266 ∧ 6 * e ≤ j ∧ j < 6 * e + 6)
theorem xRe.keep {I I' : xIt} {e : Nat} {x : Ent} (h : xRe I e x) (hI : ∀ a j, ce e a j → I' a j = I a j) : xRe I' e x := ⟨fun t ht => (h.1 t ht).keep (fun a j hc => hI a j (by unfold cr at hc; unfold ce; omega)), (hI 263 e (by unfold ce; omega)).trans h.2.1, (hI 264 e (by unfold ce; omega)).trans h.2.2.1, (hI 265 e (by unfold ce; omega)).trans h.2.2.2.1, h.2.2.2.2.1, h.2.2.2.2.2.far (fun j h1 h2 => hI 266 j (by have := h.2.2.2.2.1; unfold ce; omega))⟩
theorem ce_far {e e' a j : Nat} (h : e ≠ e') (hc : ce e a j) : ¬ ce e' a j := by unfold ce at hc ⊢; omega
set_option maxRecDepth 20000 in
theorem c_RF_copyEntry {a b : Nat} {x : Ent} (hL : xL P) (hx : xRe I a x) (ha : a < 13) (hb : b < 13) (hab : a ≠ b) : xMet l V y_RF_copyEntry 2 0 0 [xq (some 250), xi (nI a), xi (nI b)] xS0 I J P (xPv (fun I' J' P' => J = J' ∧ P = P' ∧ (∀ c j, ¬ ce b c j → I' c j = I c j) ∧ xRe I' b x)) := by
  -- the name part
  have l3 : ∀ (n j : Nat) (I1 : xIt), j + n = 6 → (∀ c i, ¬ ce b c i → I1 c i = I c i) → (∀ t, t < 5 → I1 258 (5 * b + t) = I 258 (5 * a + t)) → (∀ s, s < 15 → I1 259 (15 * b + s) = I 259 (15 * a + s) ∧ I1 261 (15 * b + s) = I 261 (15 * a + s) ∧ ∀ i, i < 6 → I1 260 (6 * (15 * b + s) + i) = I 260 (6 * (15 * a + s) + i) ∧ I1 262 (6 * (15 * b + s) + i) = I 262 (6 * (15 * a + s) + i)) → (I1 263 b = I 263 a ∧ I1 264 b = I 264 a ∧ I1 265 b = I 265 a) → (∀ i, i < j → I1 266 (6 * b + i) = I 266 (6 * a + i)) → G_RF_copyEntry l V (fun I' J' P' => J = J' ∧ P = P' ∧ (∀ c j, ¬ ce b c j → I' c j = I c j) ∧ xRe I' b x) 101 [(0, xq (some 250)), (1, xi (nI a)), (2, xi (nI b)), (3, xi (nI j))] [] I1 J P := by
    intro n
    induction n with
    | zero =>
      intro j I1 hj hI h1 h2 h3 h4
      refine b_RF_copyEntry_101 hL (pk_le 6 j (fun _ => ⟨rfl, rfl, hI, fun t ht => ?_, h3.1.trans hx.2.1, h3.2.1.trans hx.2.2.1, h3.2.2.trans hx.2.2.2.1, hx.2.2.2.2.1, fun i c hi => ?_⟩) (fun z => by omega))
      · have hr := hx.1 t ht
        refine ⟨hr.1, (h1 t ht).trans hr.2.1, fun q v hq => ?_⟩
        have hql := (List.getElem?_eq_some_iff.mp hq).1
        have hv := hr.2.2 q v hq
        have h5 := h2 (3 * t + q) (by have := hr.1; omega)
        rw [show 3 * (5 * a + t) + q = 15 * a + (3 * t + q) by omega] at hv
        rw [show 3 * (5 * b + t) + q = 15 * b + (3 * t + q) by omega]
        exact hv.move h5.1 h5.2.1 h5.2.2
      · have := (List.getElem?_eq_some_iff.mp hi).1
        exact (h4 i (by have := hx.2.2.2.2.1; omega)).trans (hx.2.2.2.2.2 i c hi)
    | succ n ih =>
      intro j I1 hj hI h1 h2 h3 h4
      refine b_RF_copyEntry_101 hL (pk_le 6 j (fun z => by omega) (fun _ => ?_))
      rw [nI_6m, nI_6m, nI_add, nI_add, nI_1, ncl (6 * a + j), ncl (6 * b + j), hI 266 (6 * a + j) (by unfold ce; omega)]
      refine ⟨pk_in (6 * a + j) 78 (by omega), pk_in (6 * b + j) 78 (by omega), ih (j + 1) _ (by omega) (fun c i hc => (xu_other (by unfold ce at hc; omega)).trans (hI c i hc)) (fun t ht => (xu_other (by omega)).trans (h1 t ht)) (fun s hs => ⟨(xu_other (by omega)).trans (h2 s hs).1, (xu_other (by omega)).trans (h2 s hs).2.1, fun i hi => ⟨(xu_other (by omega)).trans ((h2 s hs).2.2 i hi).1, (xu_other (by omega)).trans ((h2 s hs).2.2 i hi).2⟩⟩) ⟨(xu_other (by omega)).trans h3.1, (xu_other (by omega)).trans h3.2.1, (xu_other (by omega)).trans h3.2.2⟩ (fun i hi => ?_)⟩
      by_cases hij : i = j
      · subst hij; rw [xu_at]
      · rw [xu_other (by omega)]; exact h4 i (by omega)
  -- the values
  have l2 : ∀ (n k : Nat) (I1 : xIt), k + n = 15 → (∀ c i, ¬ ce b c i → I1 c i = I c i) → (∀ t, t < 5 → I1 258 (5 * b + t) = I 258 (5 * a + t)) → (∀ s, s < k → I1 259 (15 * b + s) = I 259 (15 * a + s) ∧ I1 261 (15 * b + s) = I 261 (15 * a + s) ∧ ∀ i, i < 6 → I1 260 (6 * (15 * b + s) + i) = I 260 (6 * (15 * a + s) + i) ∧ I1 262 (6 * (15 * b + s) + i) = I 262 (6 * (15 * a + s) + i)) → G_RF_copyEntry l V (fun I' J' P' => J = J' ∧ P = P' ∧ (∀ c j, ¬ ce b c j → I' c j = I c j) ∧ xRe I' b x) 35 [(0, xq (some 250)), (1, xi (nI a)), (2, xi (nI b)), (3, xi (nI k))] [] I1 J P := by
    intro n
    induction n with
    | zero =>
      intro k I1 hk hI h1 h2
      refine b_RF_copyEntry_35 hL (pk_le 15 k (fun _ => ?_) (fun z => by omega))
      rw [ncl a, ncl b]
      refine ⟨pk_in a 13 ha, pk_in b 13 hb, pk_in a 13 ha, pk_in b 13 hb, pk_in a 13 ha, pk_in b 13 hb, l3 6 0 _ rfl (fun c i hc => ?_) (fun t ht => ?_) (fun s hs => ⟨?_, ?_, fun i hi => ⟨?_, ?_⟩⟩) ⟨?_, ?_, ?_⟩ (fun i hi => by omega)⟩
      · rw [xu_other (by unfold ce at hc; omega), xu_other (by unfold ce at hc; omega), xu_other (by unfold ce at hc; omega)]; exact hI c i hc
      · rw [xu_other (by omega), xu_other (by omega), xu_other (by omega)]; exact h1 t ht
      · rw [xu_other (by omega), xu_other (by omega), xu_other (by omega)]; exact (h2 s (by omega)).1
      · rw [xu_other (by omega), xu_other (by omega), xu_other (by omega)]; exact (h2 s (by omega)).2.1
      · rw [xu_other (by omega), xu_other (by omega), xu_other (by omega)]; exact ((h2 s (by omega)).2.2 i hi).1
      · rw [xu_other (by omega), xu_other (by omega), xu_other (by omega)]; exact ((h2 s (by omega)).2.2 i hi).2
      · rw [xu_other (by omega), xu_other (by omega), xu_at]; exact hI 263 a (by unfold ce; omega)
      · rw [xu_other (by omega), xu_at]; exact hI 264 a (by unfold ce; omega)
      · rw [xu_at]; exact hI 265 a (by unfold ce; omega)
    | succ n ih =>
      intro k I1 hk hI h1 h2
      refine b_RF_copyEntry_35 hL (pk_le 15 k (fun z => by omega) (fun _ => ?_))
      rw [nI_15m, nI_15m, nI_add, nI_add, nI_1]
      refine ⟨_, c_RF_copyValue (a := 15 * a + k) (b := 15 * b + k) hL (by omega) (by omega) (by omega), ?_⟩
      rintro I2 _ _ ⟨rfl, rfl, hI2, e1, e2, e3⟩
      refine ih (k + 1) I2 (by omega) (fun c i hc => (hI2 c i (fun h => hc (by unfold cv at h; unfold ce; omega))).trans (hI c i hc)) (fun t ht => (hI2 _ _ (by unfold cv; omega)).trans (h1 t ht)) (fun s hs => ?_)
      by_cases hsk : s = k
      · subst hsk
        refine ⟨e1.trans (hI _ _ (by unfold ce; omega)), e2.trans (hI _ _ (by unfold ce; omega)), fun i hi => ⟨(e3 i hi).1.trans (hI _ _ (by unfold ce; omega)), (e3 i hi).2.trans (hI _ _ (by unfold ce; omega))⟩⟩
      · have h5 := h2 s (by omega)
        refine ⟨(hI2 _ _ (by unfold cv; omega)).trans h5.1, (hI2 _ _ (by unfold cv; omega)).trans h5.2.1, fun i hi => ⟨(hI2 _ _ (by unfold cv; omega)).trans (h5.2.2 i hi).1, (hI2 _ _ (by unfold cv; omega)).trans (h5.2.2 i hi).2⟩⟩
  -- the counts
  have l1 : ∀ (n k : Nat) (I1 : xIt), k + n = 5 → (∀ c i, ¬ ce b c i → I1 c i = I c i) → (∀ t, t < k → I1 258 (5 * b + t) = I 258 (5 * a + t)) → G_RF_copyEntry l V (fun I' J' P' => J = J' ∧ P = P' ∧ (∀ c j, ¬ ce b c j → I' c j = I c j) ∧ xRe I' b x) 2 [(0, xq (some 250)), (1, xi (nI a)), (2, xi (nI b)), (3, xi (nI k))] [] I1 J P := by
    intro n
    induction n with
    | zero =>
      intro k I1 hk hI h1
      refine b_RF_copyEntry_2 hL (pk_le 5 k (fun _ => l2 15 0 I1 rfl hI (fun t ht => h1 t (by omega)) (fun s hs => by omega)) (fun z => by omega))
    | succ n ih =>
      intro k I1 hk hI h1
      refine b_RF_copyEntry_2 hL (pk_le 5 k (fun z => by omega) (fun _ => ?_))
      rw [nI_5m, nI_5m, nI_add, nI_add, nI_1, ncl (5 * a + k), ncl (5 * b + k), hI 258 (5 * a + k) (by unfold ce; omega)]
      refine ⟨pk_in (5 * a + k) 65 (by omega), pk_in (5 * b + k) 65 (by omega), ih (k + 1) _ (by omega) (fun c i hc => (xu_other (by unfold ce at hc; omega)).trans (hI c i hc)) (fun t ht => ?_)⟩
      by_cases htk : t = k
      · subst htk; rw [xu_at]
      · rw [xu_other (by omega)]; exact h1 t (by omega)
  exact e_RF_copyEntry (b_RF_copyEntry_0 hL (l1 5 0 I rfl (fun _ _ _ => rfl) (fun t ht => by omega)))
end XRV4

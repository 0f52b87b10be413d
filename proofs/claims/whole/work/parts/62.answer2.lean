/-! the class's answer: what stands in it -/
def ltt (t : Nat) : Nat := tyk.getD t 0
def idb (d : Nat) : List Nat := enc 2 (if d < 128 then [d] else [d / 256, d % 256])
def ans (op : Nat) : Nat := if op = 99 then 101 else if op = 74 then 107 else op + 1
/-- the answer to a request -/
def rsb (d op c : Nat) : List Nat := enc 48 (idb d ++ enc (ans op) [10, 1, c, 4, 0, 4, 0])
def vlb (R : List Vl) : List Nat := R.flatMap (fun v => enc 4 v.1)
def atb (t : Nat) (R : List Vl) : List Nat := enc 48 ([4, 1, ltt t] ++ enc 49 (vlb R))
def msc (v : List Nat) : List Nat := v.flatMap (fun c => if mkd c = true then [92, c] else [c])
def ptb (t : Nat) (v : List Nat) : List Nat := [ltt t, 61] ++ msc v
/-- the name parts from an entry upwards -/
def pts (D : List Ent) : Nat → Option Nat → List (Nat × List Nat)
  | 0, _ => []
  | _ + 1, none => []
  | n + 1, some e => match D[e]? with
    | none => []
    | some x => (x.2.1, x.2.2.1) :: pts D n x.2.2.2
def nmj : List (Nat × List Nat) → List Nat
  | [] => []
  | p :: r => ptb p.1 p.2 ++ r.flatMap (fun q => 44 :: ptb q.1 q.2)
def rwt (A : Nat → List Vl) (t : Nat) : List Nat := if 0 < (A t).length then atb t (A t) else []
def rwb (A : Nat → List Vl) (n : Nat) : List Nat := (List.range n).flatMap (rwt A)
/-- an entry that was found -/
def enb (D : List Ent) (d e : Nat) (x : Ent) : List Nat := enc 48 (idb d ++ enc 100 (enc 4 (nmj (pts D 3 (some e))) ++ enc 48 (rwb x.1 5)))
def ntc : List Nat := [48, 12, 2, 1, 0, 120, 7, 10, 1, 2, 4, 0, 4, 0]
theorem vlb_app (a b : List Vl) : vlb (a ++ b) = vlb a ++ vlb b := List.flatMap_append
theorem msc_app (a b : List Nat) : msc (a ++ b) = msc a ++ msc b := List.flatMap_append
theorem idb_len (d : Nat) : (idb d).length ≤ 4 := by unfold idb; rw [enc_len]; split <;> simp
theorem enc_le (g : Nat) (C : List Nat) : C.length + 2 ≤ (enc g C).length := by rw [enc_len]; split <;> omega
section XAN2
variable {l : Launch} {V : xV} {I : xIt} {J : xJt} {P : xPt} {W : List Nat}
theorem xs2_at : ∀ k, k < 14 → xs2 k = nI (ntc.getD k 0) := by decide +kernel
set_option maxRecDepth 20000 in
theorem c_AN_writeNotice (hL : xL P) (hO : xOt I []) : xMet l V y_AN_writeNotice 2 0 0 [xq (some 248)] xS0 I J P (xPv (Qo ntc I J P)) := by
  have loop : ∀ (k j : Nat) (I1 : xIt), j + k = 14 → xSo I I1 → xOt I1 (ntc.take j) → G_AN_writeNotice l V (Qo ntc I J P) 2 [(0, xq (some 248)), (1, xi (nI j))] [] I1 J P := by
    intro k
    induction k with
    | zero =>
      intro j I1 hj hs hO1
      refine b_AN_writeNotice_2 hL (pk_le 14 j (fun _ => ⟨rfl, rfl, hs, ?_⟩) (fun z => by omega))
      rw [show j = 14 by omega] at hO1
      exact hO1
    | succ k ih =>
      intro j I1 hj hs hO1
      have hj14 : j < ntc.length := by show j < 14; omega
      refine b_AN_writeNotice_2 hL (pk_le 14 j (fun z => by omega) (fun _ => ⟨pk_in j 14 (by omega), ?_⟩))
      rw [ncl j, xs2_at j (by omega), nI_1]
      refine ⟨_, c_AN_put hL hO1 (by rw [List.length_take]; omega), ?_⟩
      rintro I2 _ _ ⟨rfl, rfl, hs2, hO2⟩
      refine ih (j + 1) I2 (by omega) (hs.trans hs2) ?_
      rw [List.take_succ, List.getElem?_eq_getElem hj14]
      rw [List.getD_eq_getElem?_getD, List.getElem?_eq_getElem hj14] at hO2
      exact hO2
  exact e_AN_writeNotice (b_AN_writeNotice_0 hL (loop 14 0 I rfl xSo.rfl hO))
theorem id_hi : ∀ d, d < 2 ^ 31 → nI d >>> ((8 : Int32) &&& 31) = nI (d / 256) := fun d h => pk_shrN h _ 8 (by decide)
set_option maxRecDepth 20000 in
theorem c_AN_writeId {d : Nat} (hL : xL P) (hO : xOt I W) (hd : d < 32768) (hr : (W ++ idb d).length ≤ 1767) : xMet l V y_AN_writeId 2 0 0 [xq (some 248), xi (nI d)] xS0 I J P (xPv (Qo (W ++ idb d) I J P)) := by
  have h0 := enc_le 2 (if d < 128 then [d] else [d / 256, d % 256])
  rw [List.length_append] at hr
  unfold idb at hr
  refine e_AN_writeId (b_AN_writeId_0 hL ?_)
  rw [hO.1, nI_255, id_hi d (by omega)]
  refine pk_lt d 128 (fun z => ?_) (fun z => ?_)
  · rw [if_pos z] at h0 hr
    rw [show d % 256 = d by omega]
    simp only [List.length_cons, List.length_nil] at h0
    refine ⟨_, c_AN_put hL hO (by omega), ?_⟩
    rintro I1 _ _ ⟨rfl, rfl, hs1, hO1⟩
    refine ⟨_, c_AN_wrap (g := 2) hL hO1 (by simp) (by rw [List.length_append]; exact hr), ?_⟩
    rintro I2 _ _ ⟨rfl, rfl, hs2, hO2⟩
    refine ⟨rfl, rfl, hs1.trans hs2, ?_⟩
    rw [idb, if_pos z]
    exact hO2
  · rw [if_neg (by omega)] at h0 hr
    simp only [List.length_cons, List.length_nil] at h0
    refine ⟨_, c_AN_put hL hO (by omega), ?_⟩
    rintro I1 _ _ ⟨rfl, rfl, hs1, hO1⟩
    refine ⟨_, c_AN_put hL hO1 (by rw [List.length_append]; simp only [List.length_cons, List.length_nil]; omega), ?_⟩
    rintro I2 _ _ ⟨rfl, rfl, hs2, hO2⟩
    rw [List.append_assoc] at hO2
    refine ⟨_, c_AN_wrap (g := 2) hL hO2 (by simp) (by rw [List.length_append]; exact hr), ?_⟩
    rintro I3 _ _ ⟨rfl, rfl, hs3, hO3⟩
    refine ⟨rfl, rfl, hs1.trans (hs2.trans hs3), ?_⟩
    rw [idb, if_neg (by omega)]
    exact hO3
set_option maxRecDepth 20000 in
theorem c_AN_answerTo {op : Nat} (hL : xL P) (ho : op < 256) : xMet l V y_AN_answerTo 1 0 0 [xi (nI op)] xS0 I J P (xPi (fun r I' J' P' => I = I' ∧ J = J' ∧ P = P' ∧ r = nI (ans op))) := by
  refine e_AN_answerTo (b_AN_answerTo_0 hL ?_)
  rw [nI_1]
  refine (pk_eq op 99 (fun z => ⟨rfl, rfl, rfl, by rw [ans, if_pos z]; rfl⟩) (fun z => (pk_eq op 74 (fun z2 => ⟨rfl, rfl, rfl, by rw [ans, if_neg z, if_pos z2]; rfl⟩) (fun z2 => ⟨rfl, rfl, rfl, by rw [ans, if_neg z, if_neg z2]⟩)).symm)).symm
set_option maxRecDepth 20000 in
theorem c_AN_writeResult {d op c : Nat} (hL : xL P) (hO : xOt I W) (hd : d < 32768) (ho : op < 256) (hr : (W ++ rsb d op c).length ≤ 1767) : xMet l V y_AN_writeResult 3 0 0 [xq (some 248), xi (nI d), xi (nI op), xi (nI c)] xS0 I J P (xPv (Qo (W ++ rsb d op c) I J P)) := by
  have h1 := enc_le 48 (idb d ++ enc (ans op) [10, 1, c, 4, 0, 4, 0])
  have h2 := enc_le (ans op) [10, 1, c, 4, 0, 4, 0]
  have h3 := idb_len d
  have h4 : (enc (ans op) [10, 1, c, 4, 0, 4, 0]).length = 9 := by rw [enc_len]; rfl
  rw [List.length_append] at hr h1
  unfold rsb at hr
  refine e_AN_writeResult (b_AN_writeResult_0 hL ⟨_, c_AN_writeId hL hO hd (by rw [List.length_append]; omega), ?_⟩)
  rintro I1 _ _ ⟨rfl, rfl, hs1, hO1⟩
  have hl1 : (W ++ idb d).length = W.length + (idb d).length := by simp
  refine ⟨_, c_AN_put (b := 10) hL hO1 (by omega), ?_⟩
  rintro I2 _ _ ⟨rfl, rfl, hs2, hO2⟩
  refine ⟨_, c_AN_put (b := 1) hL hO2 (by rw [List.length_append]; simp only [List.length_cons, List.length_nil]; omega), ?_⟩
  rintro I3 _ _ ⟨rfl, rfl, hs3, hO3⟩
  refine ⟨_, c_AN_put (b := c) hL hO3 (by simp only [List.length_append, List.length_cons, List.length_nil]; omega), ?_⟩
  rintro I4 _ _ ⟨rfl, rfl, hs4, hO4⟩
  refine ⟨_, c_AN_put (b := 4) hL hO4 (by simp only [List.length_append, List.length_cons, List.length_nil]; omega), ?_⟩
  rintro I5 _ _ ⟨rfl, rfl, hs5, hO5⟩
  refine ⟨_, c_AN_put (b := 0) hL hO5 (by simp only [List.length_append, List.length_cons, List.length_nil]; omega), ?_⟩
  rintro I6 _ _ ⟨rfl, rfl, hs6, hO6⟩
  refine ⟨_, c_AN_put (b := 4) hL hO6 (by simp only [List.length_append, List.length_cons, List.length_nil]; omega), ?_⟩
  rintro I7 _ _ ⟨rfl, rfl, hs7, hO7⟩
  refine ⟨_, c_AN_put (b := 0) hL hO7 (by simp only [List.length_append, List.length_cons, List.length_nil]; omega), ?_⟩
  rintro I8 _ _ ⟨rfl, rfl, hs8, hO8⟩
  refine ⟨_, c_AN_answerTo hL ho, ?_⟩
  rintro w I9 _ _ ⟨rfl, rfl, rfl, rfl⟩
  have e8 : W ++ idb d ++ [10] ++ [1] ++ [c] ++ [4] ++ [0] ++ [4] ++ [0] = (W ++ idb d) ++ [10, 1, c, 4, 0, 4, 0] := by simp
  rw [e8] at hO8
  rw [hO1.1, hO.1]
  refine ⟨_, c_AN_wrap (g := ans op) hL hO8 (by simp) (by rw [List.length_append, h4]; omega), ?_⟩
  rintro I9 _ _ ⟨rfl, rfl, hs9, hO9⟩
  rw [List.append_assoc] at hO9
  refine ⟨_, c_AN_wrap (g := 48) hL hO9 (by rw [List.length_append, h4]; omega) (by rw [List.length_append]; exact hr), ?_⟩
  rintro I10 _ _ ⟨rfl, rfl, hs10, hO10⟩
  exact ⟨rfl, rfl, hs1.trans (hs2.trans (hs3.trans (hs4.trans (hs5.trans (hs6.trans (hs7.trans (hs8.trans (hs9.trans hs10)))))))), hO10⟩
set_option maxRecDepth 20000 in
theorem c_AN_writeValue {g : List Nat} (hL : xL P) (hO : xOt I W) (hg : g.length ≤ 6) (hb : by8 g) (hr : (W ++ enc 4 g).length ≤ 1767) : xMet l V y_AN_writeValue 2 0 0 [xq (some 248), xj (pkd g)] xS0 I J P (xPv (Qo (W ++ enc 4 g) I J P)) := by
  have he : enc 4 g = 4 :: g.length :: g := by rw [enc, hdr, if_pos (by omega)]; rfl
  rw [he] at hr ⊢
  simp only [List.length_append, List.length_cons] at hr
  have loop : ∀ (k j : Nat) (I1 : xIt), j + k = g.length → xSo I I1 → xOt I1 (W ++ 4 :: g.length :: g.take j) → G_AN_writeValue l V (Qo (W ++ 4 :: g.length :: g) I J P) 15 [(0, xq (some 248)), (1, xj (pkd g)), (3, xi (nI j))] [] I1 J P := by
    intro k
    induction k with
    | zero =>
      intro j I1 hj hs hO1
      refine b_AN_writeValue_15 hL ⟨_, c_PK_sizeOf hL hg hb, ?_⟩
      rintro w I2 _ _ ⟨rfl, rfl, rfl, rfl⟩
      refine pk_le g.length j (fun _ => ⟨rfl, rfl, hs, ?_⟩) (fun z => by omega)
      rw [List.take_of_length_le (by omega)] at hO1
      exact hO1
    | succ k ih =>
      intro j I1 hj hs hO1
      have hjl : j < g.length := by omega
      have hgj := List.getElem?_eq_getElem hjl
      refine b_AN_writeValue_15 hL ⟨_, c_PK_sizeOf hL hg hb, ?_⟩
      rintro w I2 _ _ ⟨rfl, rfl, rfl, rfl⟩
      refine pk_le g.length j (fun z => by omega) (fun _ => ⟨_, c_PK_byteAt hL hg hb hgj, ?_⟩)
      rintro w I2 _ _ ⟨rfl, rfl, rfl, rfl⟩
      refine ⟨_, c_AN_put hL hO1 (by simp only [List.length_append, List.length_cons, List.length_take]; omega), ?_⟩
      rintro I2 _ _ ⟨rfl, rfl, hs2, hO2⟩
      rw [nI_1]
      refine ih (j + 1) I2 (by omega) (hs.trans hs2) ?_
      rw [List.take_succ, hgj]
      rw [show W ++ 4 :: g.length :: List.take j g ++ [g[j]] = W ++ 4 :: g.length :: (List.take j g ++ (some g[j]).toList) from by simp] at hO2
      exact hO2
  refine e_AN_writeValue (b_AN_writeValue_0 hL ⟨_, c_AN_put (b := 4) hL hO (by omega), ?_⟩)
  rintro I1 _ _ ⟨rfl, rfl, hs1, hO1⟩
  refine ⟨_, c_PK_sizeOf hL hg hb, ?_⟩
  rintro w I2 _ _ ⟨rfl, rfl, rfl, rfl⟩
  refine ⟨_, c_AN_put hL hO1 (by simp only [List.length_append, List.length_cons, List.length_nil]; omega), ?_⟩
  rintro I2 _ _ ⟨rfl, rfl, hs2, hO2⟩
  refine loop g.length 0 I2 (by omega) (hs1.trans hs2) ?_
  rw [List.append_assoc] at hO2
  exact hO2
theorem vlb_len {R : List Vl} {n : Nat} (h3 : R.length ≤ 3) (hv : ∀ v ∈ R, v.1.length ≤ n) : (vlb R).length ≤ 3 * (n + 3) := by
  have key : ∀ S : List Vl, (∀ v ∈ S, v.1.length ≤ n) → (vlb S).length ≤ S.length * (n + 3) := by
    intro S
    induction S with
    | nil => intro _; simp [vlb]
    | cons v S ih =>
      intro h
      have h1 := ih (fun w hw => h w (by simp [hw]))
      have h2 := h v (by simp)
      have h3 : (enc 4 v.1).length ≤ n + 3 := by rw [enc_len]; split <;> omega
      simp only [vlb, List.flatMap_cons, List.length_append, List.length_cons] at h1 ⊢
      rw [Nat.add_mul]
      omega
  exact Nat.le_trans (key R hv) (Nat.mul_le_mul_right _ h3)
set_option maxRecDepth 20000 in
theorem c_AN_writeAttribute {t a : Nat} {R : List Vl} (hL : xL P) (hO : xOt I W) (ht : t < 5) (ha : xS0[a]? = some (6, 0)) (hR : xRw I J a (pkr R)) (h3 : R.length ≤ 3) (hv : ∀ v ∈ R, v.1.length ≤ 6 ∧ by8 v.1) (hr : (W ++ atb t R).length ≤ 1767) : xMet l V y_AN_writeAttribute 3 0 0 [xq (some 248), xi (nI t), xq (some a)] xS0 I J P (xPv (Qo (W ++ atb t R) I J P)) := by
  have hcap := vr_cap ha
  have ha25 := vr_25 a (x_lt0 ha) ha
  have hvl := vlb_len h3 (fun v hv' => (hv v hv').1)
  have he1 := enc_le 49 (vlb R)
  have he1' := enc_len 49 (vlb R)
  rw [if_pos (by omega)] at he1'
  have he2 := enc_le 48 ([4, 1, ltt t] ++ enc 49 (vlb R))
  rw [List.length_append] at hr he2
  unfold atb at hr
  simp only [List.length_cons, List.length_nil] at he2
  have hxs : xs0 t = nI (ltt t) := xs0_at t ht
  have loop : ∀ (k j : Nat) (I1 : xIt), j + k = R.length → xSo I I1 → xOt I1 ((W ++ [4, 1, ltt t]) ++ vlb (R.take j)) → G_AN_writeAttribute l V (Qo (W ++ atb t R) I J P) 33 [(0, xq (some 248)), (1, xi (nI t)), (2, xq (some a)), (3, xi (nI W.length)), (4, xi (nI (W ++ [4, 1, ltt t]).length)), (5, xi (nI j))] [] I1 J P := by
    intro k
    induction k with
    | zero =>
      intro j I1 hj hs hO1
      refine b_AN_writeAttribute_33 hL ⟨a, rfl, ha, ?_⟩
      refine pk_le R.length j (fun _ => ?_) (fun z => by omega) ((hs a 2 (by omega) (by omega)).trans (hR.1.trans (by rw [pkr_len])))
      rw [List.take_of_length_le (by omega)] at hO1
      refine ⟨_, c_AN_wrap (g := 49) hL hO1 (by omega) (by simp only [List.length_append, List.length_cons, List.length_nil]; omega), ?_⟩
      rintro I2 _ _ ⟨rfl, rfl, hs2, hO2⟩
      rw [List.append_assoc] at hO2
      refine ⟨_, c_AN_wrap (g := 48) hL hO2 (by simp only [List.length_append, List.length_cons, List.length_nil]; omega) (by rw [List.length_append]; exact hr), ?_⟩
      rintro I3 _ _ ⟨rfl, rfl, hs3, hO3⟩
      exact ⟨rfl, rfl, hs.trans (hs2.trans hs3), hO3⟩
    | succ k ih =>
      intro j I1 hj hs hO1
      have hjl : j < R.length := by omega
      have hgj := List.getElem?_eq_getElem hjl
      have hrow := (hR.2.2 j _ (pkr_get hgj)).1
      have hvj := hv R[j] (List.getElem_mem hjl)
      have htk : vlb (R.take (j + 1)) = vlb (R.take j) ++ enc 4 R[j].1 := by
        rw [List.take_succ, hgj, vlb_app]
        exact congrArg (fun z => vlb (R.take j) ++ z) (List.append_nil _)
      have hle : (vlb (R.take (j + 1))).length ≤ (vlb R).length := by
        have : vlb R = vlb (R.take (j + 1)) ++ vlb (R.drop (j + 1)) := by
          conv => lhs; rw [← List.take_append_drop (j + 1) R]
          exact vlb_app _ _
        rw [this, List.length_append]
        omega
      rw [htk, List.length_append] at hle
      refine b_AN_writeAttribute_33 hL ⟨a, rfl, ha, ?_⟩
      refine pk_le R.length j (fun z => by omega) (fun _ => ⟨pk_in j _ (by omega), ?_⟩) ((hs a 2 (by omega) (by omega)).trans (hR.1.trans (by rw [pkr_len])))
      rw [ncl j, hrow, nI_1]
      refine ⟨_, c_AN_writeValue hL hO1 hvj.1 hvj.2 (by simp only [List.length_append, List.length_cons, List.length_nil]; omega), ?_⟩
      rintro I2 _ _ ⟨rfl, rfl, hs2, hO2⟩
      refine ih (j + 1) I2 (by omega) (hs.trans hs2) ?_
      rw [htk, ← List.append_assoc]
      exact hO2
  refine e_AN_writeAttribute (b_AN_writeAttribute_0 hL ⟨_, c_AN_put (b := 4) hL hO (by omega), ?_⟩)
  rintro I1 _ _ ⟨rfl, rfl, hs1, hO1⟩
  refine ⟨_, c_AN_put (b := 1) hL hO1 (by simp only [List.length_append, List.length_cons, List.length_nil]; omega), ?_⟩
  rintro I2 _ _ ⟨rfl, rfl, hs2, hO2⟩
  refine ⟨pk_in t 5 ht, ?_⟩
  rw [ncl t, hxs]
  refine ⟨_, c_AN_put hL hO2 (by simp only [List.length_append, List.length_cons, List.length_nil]; omega), ?_⟩
  rintro I3 _ _ ⟨rfl, rfl, hs3, hO3⟩
  have e3 : W ++ [4] ++ [1] ++ [ltt t] = W ++ [4, 1, ltt t] := by simp
  rw [e3] at hO3
  rw [hO3.1, hO.1]
  refine loop R.length 0 I3 (by omega) (hs1.trans (hs2.trans hs3)) ?_
  rw [List.take_zero, show vlb [] = [] from rfl, List.append_nil]
  exact hO3
set_option maxRecDepth 20000 in
theorem c_AN_writePart {t : Nat} {v : List Nat} (hL : xL P) (hO : xOt I W) (ht : t < 5) (hv : v.length ≤ 6 ∧ by8 v) (hr : (W ++ ptb t v).length ≤ 1767) : xMet l V y_AN_writePart 2 0 0 [xq (some 248), xi (nI t), xj (pkd v)] xS0 I J P (xPv (Qo (W ++ ptb t v) I J P)) := by
  have hxs : xs0 t = nI (ltt t) := xs0_at t ht
  unfold ptb at hr ⊢
  simp only [List.length_append, List.length_cons, List.length_nil] at hr
  have loop : ∀ (k j : Nat) (I1 : xIt), j + k = v.length → xSo I I1 → xOt I1 (W ++ ([ltt t, 61] ++ msc (v.take j))) → G_AN_writePart l V (Qo (W ++ ([ltt t, 61] ++ msc v)) I J P) 18 [(0, xq (some 248)), (1, xi (nI t)), (2, xj (pkd v)), (4, xi (nI j))] [] I1 J P := by
    intro k
    induction k with
    | zero =>
      intro j I1 hj hs hO1
      refine b_AN_writePart_18 hL ⟨_, c_PK_sizeOf hL hv.1 hv.2, ?_⟩
      rintro w I2 _ _ ⟨rfl, rfl, rfl, rfl⟩
      refine pk_le v.length j (fun _ => ⟨rfl, rfl, hs, ?_⟩) (fun z => by omega)
      rw [List.take_of_length_le (by omega)] at hO1
      exact hO1
    | succ k ih =>
      intro j I1 hj hs hO1
      have hjl : j < v.length := by omega
      have hgj := List.getElem?_eq_getElem hjl
      have hb := hv.2 v[j] (List.getElem_mem hjl)
      have htk : msc (v.take (j + 1)) = msc (v.take j) ++ (if mkd v[j] = true then [92, v[j]] else [v[j]]) := by
        rw [List.take_succ, hgj, msc_app]
        exact congrArg (fun z => msc (v.take j) ++ z) (List.append_nil _)
      have hle : (msc (v.take (j + 1))).length ≤ (msc v).length := by
        have : msc v = msc (v.take (j + 1)) ++ msc (v.drop (j + 1)) := by
          conv => lhs; rw [← List.take_append_drop (j + 1) v]
          exact msc_app _ _
        rw [this, List.length_append]
        omega
      rw [htk, List.length_append] at hle
      refine b_AN_writePart_18 hL ⟨_, c_PK_sizeOf hL hv.1 hv.2, ?_⟩
      rintro w I2 _ _ ⟨rfl, rfl, rfl, rfl⟩
      refine pk_le v.length j (fun z => by omega) (fun _ => ⟨_, c_PK_byteAt hL hv.1 hv.2 hgj, ?_⟩)
      rintro w I2 _ _ ⟨rfl, rfl, rfl, rfl⟩
      refine ⟨_, c_NM_isMarked hL hb, ?_⟩
      rintro w I2 _ _ ⟨rfl, rfl, rfl, rfl⟩
      rw [nI_1]
      by_cases hk : mkd v[j] = true
      · rw [if_pos hk] at htk hle ⊢
        simp only [List.length_cons, List.length_nil] at hle
        refine ⟨fun z => absurd z (by decide), fun _ => ⟨_, c_AN_put (b := 92) hL hO1 (by simp only [List.length_append, List.length_cons, List.length_nil]; omega), ?_⟩⟩
        rintro I2 _ _ ⟨rfl, rfl, hs2, hO2⟩
        refine ⟨_, c_AN_put hL hO2 (by simp only [List.length_append, List.length_cons, List.length_nil]; omega), ?_⟩
        rintro I3 _ _ ⟨rfl, rfl, hs3, hO3⟩
        refine ih (j + 1) I3 (by omega) (hs.trans (hs2.trans hs3)) ?_
        rw [htk]
        rw [show W ++ ([ltt t, 61] ++ msc (List.take j v)) ++ [92] ++ [v[j]] = W ++ ([ltt t, 61] ++ (msc (List.take j v) ++ [92, v[j]])) from by simp] at hO3
        exact hO3
      · rw [if_neg hk] at htk hle ⊢
        simp only [List.length_cons, List.length_nil] at hle
        refine ⟨fun _ => ⟨_, c_AN_put hL hO1 (by simp only [List.length_append, List.length_cons, List.length_nil]; omega), ?_⟩, fun z => absurd rfl z⟩
        rintro I2 _ _ ⟨rfl, rfl, hs2, hO2⟩
        refine ih (j + 1) I2 (by omega) (hs.trans hs2) ?_
        rw [htk]
        rw [show W ++ ([ltt t, 61] ++ msc (List.take j v)) ++ [v[j]] = W ++ ([ltt t, 61] ++ (msc (List.take j v) ++ [v[j]])) from by simp] at hO2
        exact hO2
  refine e_AN_writePart (b_AN_writePart_0 hL ⟨pk_in t 5 ht, ?_⟩)
  rw [ncl t, hxs]
  refine ⟨_, c_AN_put hL hO (by omega), ?_⟩
  rintro I1 _ _ ⟨rfl, rfl, hs1, hO1⟩
  refine ⟨_, c_AN_put (b := 61) hL hO1 (by simp only [List.length_append, List.length_cons, List.length_nil]; omega), ?_⟩
  rintro I2 _ _ ⟨rfl, rfl, hs2, hO2⟩
  refine loop v.length 0 I2 (by omega) (hs1.trans hs2) ?_
  rw [List.append_assoc] at hO2
  exact hO2
end XAN2

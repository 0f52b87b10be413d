/-! the reference: what goes out, written backwards -/
def xBk (I : xIt) (B : List Nat) : Prop := I 250 44 = nI B.length ∧ B.length ≤ 256 ∧ ∀ i b, B[i]? = some b → I 272 i = nI b
def xRo (I : xIt) (W : List Nat) : Prop := I 250 42 = nI W.length ∧ W.length ≤ 2048 ∧ ∀ i b, W[i]? = some b → I 271 i = nI b
/-- nothing but the row that is written backwards changed -/
def xSb (I I' : xIt) : Prop := ∀ a j, ¬ (a = 250 ∧ j = 44) → a ≠ 272 → I' a j = I a j
theorem xSb.rfl {I : xIt} : xSb I I := fun _ _ _ _ => Eq.refl _
theorem xSb.trans {I I1 I2 : xIt} (h : xSb I I1) (h2 : xSb I1 I2) : xSb I I2 := fun a j h3 h4 => (h2 a j h3 h4).trans (h a j h3 h4)
theorem xSb.re {I I1 : xIt} {s : Nat} {x : Ent} (h : xSb I I1) (hx : xRe I s x) : xRe I1 s x := hx.keep (fun a j hc => h a j (by unfold ce at hc; omega) (by unfold ce at hc; omega))
theorem xSb.rt {I I1 : xIt} {D : List Ent} (h : xSb I I1) (hx : xRt I D) : xRt I1 D := hx.keep' (h 250 27 (by omega) (by omega)) (fun a j h1 h2 => h a j (by omega) (by omega))
theorem xSb.ro {I I1 : xIt} {W : List Nat} (h : xSb I I1) (hx : xRo I W) : xRo I1 W := ⟨(h 250 42 (by omega) (by omega)).trans hx.1, hx.2.1, fun i b hi => (h 271 i (by omega) (by omega)).trans (hx.2.2 i b hi)⟩
def Qb (B : List Nat) (I : xIt) (J : xJt) (P : xPt) : xIt → xJt → xPt → Prop := fun I' J' P' => J = J' ∧ P = P' ∧ xSb I I' ∧ xBk I' B
theorem enc_rev (g : Nat) (C : List Nat) : (enc g C.reverse).reverse = C ++ ((hdr C.length).reverse ++ [g]) := by
  unfold enc
  rw [List.reverse_cons, List.reverse_append, List.reverse_reverse, List.length_reverse, List.append_assoc]
section XRB
variable {l : Launch} {V : xV} {I : xIt} {J : xJt} {P : xPt} {B : List Nat}
set_option maxRecDepth 20000 in
theorem c_RF_put {b : Nat} (hL : xL P) (hB : xBk I B) (hr : B.length < 256) : xMet l V y_RF_put 1 0 0 [xq (some 250), xi (nI b)] xS0 I J P (xPv (Qb (B ++ [b]) I J P)) := by
  refine e_RF_put (b_RF_put_0 hL ?_)
  rw [hB.1, ncl B.length, nI_1]
  refine ⟨pk_in B.length 256 hr, rfl, rfl, fun a j h1 h2 => (xu_other h1).trans (xu_other (by omega)), by rw [xu_at]; simp, by simp; omega, fun i c hi => ?_⟩
  rw [xu_other (by omega)]
  by_cases h : i < B.length
  · rw [List.getElem?_append_left h] at hi
    rw [xu_other (by omega)]
    exact hB.2.2 i c hi
  · rw [List.getElem?_append_right (by omega)] at hi
    have h8 : i = B.length := by
      have := (List.getElem?_eq_some_iff.mp hi).1
      simp at this
      omega
    subst h8
    simp at hi
    subst hi
    exact xu_at
set_option maxRecDepth 20000 in
theorem c_RF_close {g : Nat} {U C : List Nat} (hL : xL P) (hB : xBk I (U ++ C)) (hr : (U ++ (enc g C.reverse).reverse).length ≤ 256) : xMet l V y_RF_close 2 0 0 [xq (some 250), xi (nI g), xi (nI U.length)] xS0 I J P (xPv (Qb (U ++ (enc g C.reverse).reverse) I J P)) := by
  rw [enc_rev] at hr ⊢
  have hlen : (U ++ C).length = U.length + C.length := by simp
  have hn : I 250 44 - nI U.length = nI C.length := by rw [hB.1, hlen, pk_sub (by omega)]; congr 1; omega
  have hh : (hdr C.length).length = if C.length < 128 then 1 else 2 := by unfold hdr; split <;> rfl
  simp only [List.length_append, List.length_reverse, List.length_cons, List.length_nil, hh] at hr
  refine e_RF_close (b_RF_close_0 hL ?_)
  rw [hn]
  refine ⟨_, c_RF_put hL hB (by rw [hlen]; split at hr <;> omega), ?_⟩
  rintro I1 _ _ ⟨rfl, rfl, hs1, hB1⟩
  refine pk_le C.length 127 (fun z => ?_) (fun z => ?_)
  · rw [if_pos (by omega)] at hr
    refine ⟨_, c_RF_put hL hB1 (by simp only [List.length_append, List.length_cons, List.length_nil]; omega), ?_⟩
    rintro I2 _ _ ⟨rfl, rfl, hs2, hB2⟩
    refine ⟨rfl, rfl, hs1.trans hs2, ?_⟩
    rw [show hdr C.length = [C.length] from by unfold hdr; rw [if_pos (by omega)]]
    rw [show U ++ (C ++ ([C.length].reverse ++ [g])) = U ++ C ++ [C.length] ++ [g] from by simp]
    exact hB2
  · rw [if_neg (by omega)] at hr
    refine ⟨_, c_RF_put (b := 129) hL hB1 (by simp only [List.length_append, List.length_cons, List.length_nil]; omega), ?_⟩
    rintro I2 _ _ ⟨rfl, rfl, hs2, hB2⟩
    refine ⟨_, c_RF_put hL hB2 (by simp only [List.length_append, List.length_cons, List.length_nil]; omega), ?_⟩
    rintro I3 _ _ ⟨rfl, rfl, hs3, hB3⟩
    refine ⟨rfl, rfl, hs1.trans (hs2.trans hs3), ?_⟩
    rw [show hdr C.length = [129, C.length] from by unfold hdr; rw [if_neg (by omega)]]
    rw [show U ++ (C ++ ([129, C.length].reverse ++ [g])) = U ++ C ++ [C.length] ++ [129] ++ [g] from by simp]
    exact hB3
/-- what ship leaves alone -/
def xSs (I I' : xIt) : Prop := ∀ a j, ¬ (a = 250 ∧ (j = 42 ∨ j = 44)) → a ≠ 271 → a ≠ 272 → I' a j = I a j
set_option maxRecDepth 20000 in
theorem c_RF_ship {d : Nat} {X W : List Nat} (hL : xL P) (hB : xBk I X.reverse) (hW : xRo I W) (hd : d < 32768) (hid : I 250 8 = nI d) (hr : (enc 48 (idb d ++ X)).length ≤ 256) (hw : (W ++ enc 48 (idb d ++ X)).length ≤ 2048) : xMet l V y_RF_ship 3 0 0 [xq (some 250)] xS0 I J P (xPv (fun I' J' P' => J = J' ∧ P = P' ∧ xSs I I' ∧ xRo I' (W ++ enc 48 (idb d ++ X)) ∧ I' 250 44 = 0)) := by
  -- the bytes go over in turn
  have loop : ∀ (n : Nat) (Y Z : List Nat) (v2 : Int32) (I1 : xIt), enc 48 (idb d ++ X) = Y ++ Z → Z.length = n → (n = 0 → v2 < 0) → (0 < n → v2 = nI (n - 1)) → xSs I I1 → xRo I1 (W ++ Y) → xBk I1 (enc 48 (idb d ++ X)).reverse → G_RF_ship l V (fun I' J' P' => J = J' ∧ P = P' ∧ xSs I I' ∧ xRo I' (W ++ enc 48 (idb d ++ X)) ∧ I' 250 44 = 0) 58 [(0, xq (some 250)), (1, xi (nI X.length)), (2, xi v2)] [] I1 J P := by
    intro n
    induction n with
    | zero =>
      intro Y Z v2 I1 hYZ hZ h0 hp hs hO hBk
      have hZ0 : Z = [] := List.eq_nil_of_length_eq_zero hZ
      rw [hZ0, List.append_nil] at hYZ
      refine b_RF_ship_58 hL ⟨fun _ => ⟨rfl, rfl, fun a j h1 h2 h3 => (xu_other (by omega)).trans (hs a j h1 h2 h3), ?_, xu_at⟩, fun z => absurd (h0 rfl) z⟩
      rw [hYZ]
      exact ⟨(xu_other (by omega)).trans hO.1, hO.2.1, fun i b hi => (xu_other (by omega)).trans (hO.2.2 i b hi)⟩
    | succ n ih =>
      intro Y Z v2 I1 hYZ hZ h0 hp hs hO hBk
      have hv := hp (by omega)
      subst hv
      obtain ⟨c, Z', rfl⟩ : ∃ c Z', Z = c :: Z' := by
        cases Z with
        | nil => simp at hZ
        | cons c Z' => exact ⟨c, Z', rfl⟩
      have hZ' : Z'.length = n := by simp at hZ; exact hZ
      have hlen : (enc 48 (idb d ++ X)).length = Y.length + (n + 1) := by rw [hYZ]; simp; omega
      have hbn : I1 272 n = nI c := by
        refine hBk.2.2 n c ?_
        rw [hYZ, List.reverse_append, List.getElem?_append_left (by rw [List.length_reverse, hZ]; omega), List.getElem?_reverse (by rw [hZ]; omega), hZ]
        rw [show n + 1 - 1 - n = 0 by omega]
        rfl
      rw [List.length_append] at hw
      refine b_RF_ship_58 hL ⟨fun z => absurd z (nI_pos (by omega)), fun _ => ⟨pk_in n 256 (by omega), ?_⟩⟩
      rw [show n + 1 - 1 = n by omega, hO.1, ncl (W ++ Y).length (by rw [List.length_append]; omega), ncl n, hbn, nI_1]
      refine ⟨pk_in (W ++ Y).length 2048 (by rw [List.length_append]; omega), ih (Y ++ [c]) Z' _ _ (by rw [hYZ]; simp) hZ' (fun hz => by rw [hz]; decide) (fun hz => by rw [show n = (n - 1) + 1 by omega, pk_m1]; rfl) (fun a j h1 h2 h3 => (xu_other (by omega)).trans ((xu_other (by omega)).trans (hs a j h1 h2 h3))) ⟨by rw [xu_at]; simp; congr 1, by simp only [List.length_append, List.length_cons, List.length_nil]; omega, fun i b hi => ?_⟩ ⟨(xu_other (by omega)).trans ((xu_other (by omega)).trans hBk.1), hBk.2.1, fun i b hi => (xu_other (by omega)).trans ((xu_other (by omega)).trans (hBk.2.2 i b hi))⟩⟩
      rw [xu_other (by omega)]
      rw [← List.append_assoc] at hi
      by_cases hil : i < (W ++ Y).length
      · rw [List.getElem?_append_left hil] at hi
        rw [xu_other (by omega)]
        exact hO.2.2 i b hi
      · rw [List.getElem?_append_right (by omega)] at hi
        have h8 : i = (W ++ Y).length := by
          have := (List.getElem?_eq_some_iff.mp hi).1
          simp only [List.length_cons, List.length_nil] at this
          omega
        subst h8
        simp at hi
        subst hi
        exact xu_at
  have hXl : X.reverse.length = X.length := List.length_reverse
  have he1 := enc_le 48 (idb d ++ X)
  have he2 := idb_len d
  rw [List.length_append] at he1
  have fin : ∀ (C : List Nat) (I1 : xIt), C.reverse = (if d < 128 then [d] else [d / 256, d % 256]) → xSb I I1 → xBk I1 (X.reverse ++ C) → (∃ Q2 : xIt → xJt → xPt → Prop, xMet l V y_RF_close 2 0 0 [xq (some 250), xi 2, xi (nI X.length)] xS0 I1 J P (xPv Q2) ∧ ∀ (I2 : xIt) (J2 : xJt) (P2 : xPt), Q2 I2 J2 P2 → (∃ Q3 : xIt → xJt → xPt → Prop, xMet l V y_RF_close 2 0 0 [xq (some 250), xi 48, xi 0] xS0 I2 J2 P2 (xPv Q3) ∧ ∀ (I3 : xIt) (J3 : xJt) (P3 : xPt), Q3 I3 J3 P3 → G_RF_ship l V (fun I' J' P' => J = J' ∧ P = P' ∧ xSs I I' ∧ xRo I' (W ++ enc 48 (idb d ++ X)) ∧ I' 250 44 = 0) 58 [(0, xq (some 250)), (1, xi (nI X.length)), (2, xi ((I3 250 44) - 1))] [] I3 J3 P3)) := by
    intro C I1 hC hs1 hB1
    have hidb : (enc 2 C.reverse).reverse = (idb d).reverse := by rw [hC]; rfl
    have h1 := c_RF_close (l := l) (V := V) (J := J) (g := 2) hL hB1 (by rw [hidb, List.length_append, List.length_reverse, List.length_reverse]; omega)
    rw [hXl] at h1
    refine ⟨_, h1, ?_⟩
    rintro I2 _ _ ⟨rfl, rfl, hs2, hB2⟩
    rw [hidb] at hB2
    have hB2' : xBk I2 ([] ++ (X.reverse ++ (idb d).reverse)) := hB2
    have hrr : (X.reverse ++ (idb d).reverse).reverse = idb d ++ X := by simp
    refine ⟨_, c_RF_close (g := 48) (U := []) hL hB2' (by rw [hrr, List.nil_append, List.length_reverse]; exact hr), ?_⟩
    rintro I3 _ _ ⟨rfl, rfl, hs3, hB3⟩
    rw [hrr, List.nil_append] at hB3
    have hs03 := hs1.trans (hs2.trans hs3)
    have hl0 : 0 < (enc 48 (idb d ++ X)).length := by omega
    rw [hB3.1, List.length_reverse, show nI (enc 48 (idb d ++ X)).length - 1 = nI ((enc 48 (idb d ++ X)).length - 1) from pk_sub (b := 1) (by omega)]
    refine loop (enc 48 (idb d ++ X)).length [] _ _ I3 (by simp) rfl (fun h => by omega) (fun _ => rfl) (fun a j h1 h2 h3 => hs03 a j (by omega) h3) ?_ hB3
    rw [List.append_nil]
    exact hs03.ro hW
  refine e_RF_ship (b_RF_ship_0 hL ?_)
  rw [hid, show (256 : Int32) = nI 256 from rfl, pk_rem (by omega) (by omega) (by omega), hB.1, hXl]
  refine ⟨_, c_RF_put (b := d % 256) hL hB (by rw [hXl]; omega), ?_⟩
  rintro I1 _ _ ⟨rfl, rfl, hs1, hB1⟩
  have hid1 : I1 250 8 = nI d := (hs1 250 8 (by omega) (by omega)).trans hid
  rw [hid1]
  refine pk_le d 127 (fun z => ?_) (fun z => ?_)
  · exact fin [d % 256] I1 (by rw [if_pos (by omega), show d % 256 = d by omega]; rfl) hs1 hB1
  · have hidl : (idb d).length = 4 := by unfold idb; rw [if_neg (by omega), enc_len]; rfl
    rw [pk_div (by omega) (by omega) (by omega)]
    refine ⟨_, c_RF_put (b := d / 256) hL hB1 (by rw [List.length_append, hXl]; simp only [List.length_cons, List.length_nil]; omega), ?_⟩
    rintro I2 _ _ ⟨rfl, rfl, hs2, hB2⟩
    rw [List.append_assoc] at hB2
    exact fin [d % 256, d / 256] I2 (by rw [if_neg (by omega)]; rfl) (hs1.trans hs2) hB2
set_option maxRecDepth 20000 in
theorem c_RF_answer {d g c : Nat} {W : List Nat} (hL : xL P) (hW : xRo I W) (hd : d < 32768) (hid : I 250 8 = nI d) (hw : (W ++ enc 48 (idb d ++ enc g [10, 1, c, 4, 0, 4, 0])).length ≤ 2048) : xMet l V y_RF_answer 4 0 0 [xq (some 250), xi (nI g), xi (nI c)] xS0 I J P (xPv (fun I' J' P' => J = J' ∧ P = P' ∧ (∀ a j, ¬ (a = 250 ∧ (j = 42 ∨ j = 44 ∨ j = 46)) → a ≠ 271 → a ≠ 272 → I' a j = I a j) ∧ I' 250 46 = nI c ∧ xRo I' (W ++ enc 48 (idb d ++ enc g [10, 1, c, 4, 0, 4, 0])))) := by
  have h4 : (enc g [10, 1, c, 4, 0, 4, 0]).length = 9 := by rw [enc_len]; rfl
  have h3 := idb_len d
  refine e_RF_answer (b_RF_answer_0 hL ?_)
  have hB0 : xBk (xu (xu I 250 46 (nI c)) 250 44 0) [] := ⟨xu_at, by simp, fun i b hi => by simp at hi⟩
  refine ⟨_, c_RF_put (b := 0) hL hB0 (by simp), ?_⟩
  rintro I1 _ _ ⟨rfl, rfl, hs1, hB1⟩
  refine ⟨_, c_RF_put (b := 4) hL hB1 (by simp), ?_⟩
  rintro I2 _ _ ⟨rfl, rfl, hs2, hB2⟩
  refine ⟨_, c_RF_put (b := 0) hL hB2 (by simp), ?_⟩
  rintro I3 _ _ ⟨rfl, rfl, hs3, hB3⟩
  refine ⟨_, c_RF_put (b := 4) hL hB3 (by simp), ?_⟩
  rintro I4 _ _ ⟨rfl, rfl, hs4, hB4⟩
  refine ⟨_, c_RF_put (b := c) hL hB4 (by simp), ?_⟩
  rintro I5 _ _ ⟨rfl, rfl, hs5, hB5⟩
  refine ⟨_, c_RF_put (b := 1) hL hB5 (by simp), ?_⟩
  rintro I6 _ _ ⟨rfl, rfl, hs6, hB6⟩
  refine ⟨_, c_RF_put (b := 10) hL hB6 (by simp), ?_⟩
  rintro I7 _ _ ⟨rfl, rfl, hs7, hB7⟩
  have hB7' : xBk I7 ([] ++ [0, 4, 0, 4, c, 1, 10]) := hB7
  have hrr : [0, 4, 0, 4, c, 1, 10].reverse = [10, 1, c, 4, 0, 4, 0] := rfl
  refine ⟨_, c_RF_close (U := []) hL hB7' (by rw [hrr, List.nil_append, List.length_reverse, h4]; omega), ?_⟩
  rintro I8 _ _ ⟨rfl, rfl, hs8, hB8⟩
  rw [hrr, List.nil_append] at hB8
  have hs : xSb (xu (xu I 250 46 (nI c)) 250 44 0) I8 := hs1.trans (hs2.trans (hs3.trans (hs4.trans (hs5.trans (hs6.trans (hs7.trans hs8))))))
  have hW0 : xRo (xu (xu I 250 46 (nI c)) 250 44 0) W := ⟨(xu_other (by omega)).trans ((xu_other (by omega)).trans hW.1), hW.2.1, fun i b hi => (xu_other (by omega)).trans ((xu_other (by omega)).trans (hW.2.2 i b hi))⟩
  refine ⟨_, c_RF_ship hL hB8 (hs.ro hW0) hd ((hs 250 8 (by omega) (by omega)).trans ((xu_other (by omega)).trans ((xu_other (by omega)).trans hid))) (by rw [enc_len, List.length_append, h4, if_pos (by omega)]; omega) hw, ?_⟩
  rintro I9 _ _ ⟨rfl, rfl, hs9, hO9, h44⟩
  refine ⟨rfl, rfl, fun a j h1 h2 h3 => (hs9 a j (by omega) h2 h3).trans ((hs a j (by omega) h3).trans ((xu_other (by omega)).trans (xu_other (by omega)))), ?_, hO9⟩
  rw [hs9 250 46 (by omega) (by omega) (by omega), hs 250 46 (by omega) (by omega), xu_other (by omega), xu_at]
set_option maxRecDepth 20000 in
theorem c_RF_letter {t : Nat} (hL : xL P) (ht : t < 5) : xMet l V y_RF_letter 1 0 0 [xi (nI t)] xS0 I J P (xPi (fun r I' J' P' => I = I' ∧ J = J' ∧ P = P' ∧ r = nI (ltt t))) := by
  refine e_RF_letter (b_RF_letter_0 hL ?_)
  refine (pk_eq t 0 (fun z => ⟨rfl, rfl, rfl, by subst z; rfl⟩) (fun z0 => (pk_eq t 1 (fun z => ⟨rfl, rfl, rfl, by subst z; rfl⟩) (fun z1 => (pk_eq t 2 (fun z => ⟨rfl, rfl, rfl, by subst z; rfl⟩) (fun z2 => (pk_eq t 3 (fun z => ⟨rfl, rfl, rfl, by subst z; rfl⟩) (fun z3 => ⟨rfl, rfl, rfl, by rw [show t = 4 by omega]; rfl⟩)).symm)).symm)).symm)).symm
end XRB

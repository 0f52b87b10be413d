/-! the class's answer: bytes that go out -/
theorem ncl (n : Nat) (h : n < 2 ^ 31 := by omega) : (nI n).toNatClampNeg = n := nI_clamp h
def hdr (n : Nat) : List Nat := if n < 128 then [n] else [129, n]
/-- a tag and a length before a content -/
def enc (g : Nat) (C : List Nat) : List Nat := g :: (hdr C.length ++ C)
theorem enc_len (g : Nat) (C : List Nat) : (enc g C).length = C.length + (if C.length < 128 then 2 else 3) := by
  unfold enc hdr
  split <;> simp <;> omega
def xOt (I : xIt) (W : List Nat) : Prop := I 248 1 = nI W.length ∧ W.length ≤ 1767 ∧ ∀ i b, W[i]? = some b → I 249 i = nI b
def xSo (I I' : xIt) : Prop := ∀ b k, ¬ (b = 248 ∧ k = 1) → b ≠ 249 → I' b k = I b k
theorem xSo.rfl {I : xIt} : xSo I I := fun _ _ _ _ => Eq.refl _
theorem xSo.trans {I I1 I2 : xIt} (h : xSo I I1) (h2 : xSo I1 I2) : xSo I I2 := fun b k h3 h4 => (h2 b k h3 h4).trans (h b k h3 h4)
def Qo (W : List Nat) (I : xIt) (J : xJt) (P : xPt) : xIt → xJt → xPt → Prop := fun I' J' P' => J = J' ∧ P = P' ∧ xSo I I' ∧ xOt I' W
theorem enc_get {U C : List Nat} {g i b : Nat} {h : List Nat} (hi : (U ++ g :: (h ++ C))[i]? = some b) : (i < U.length ∧ U[i]? = some b) ∨ (i = U.length ∧ b = g) ∨ (∃ j, i = U.length + 1 + j ∧ h[j]? = some b) ∨ ∃ j, i = U.length + 1 + h.length + j ∧ C[j]? = some b := by
  by_cases h1 : i < U.length
  · rw [List.getElem?_append_left h1] at hi
    exact Or.inl ⟨h1, hi⟩
  rw [List.getElem?_append_right (by omega)] at hi
  cases h2 : i - U.length with
  | zero =>
    rw [h2] at hi
    simp at hi
    exact Or.inr (Or.inl ⟨by omega, hi.symm⟩)
  | succ k =>
    rw [h2, List.getElem?_cons_succ] at hi
    by_cases h3 : k < h.length
    · rw [List.getElem?_append_left h3] at hi
      exact Or.inr (Or.inr (Or.inl ⟨k, by omega, hi⟩))
    · rw [List.getElem?_append_right (by omega)] at hi
      exact Or.inr (Or.inr (Or.inr ⟨k - h.length, by omega, hi⟩))
section XAN
variable {l : Launch} {V : xV} {I : xIt} {J : xJt} {P : xPt} {W : List Nat}
set_option maxRecDepth 20000 in
theorem c_AN_clear (hL : xL P) : xMet l V y_AN_clear 1 0 0 [xq (some 248)] xS0 I J P (xPv (Qo [] I J P)) :=
  e_AN_clear (b_AN_clear_0 hL ⟨rfl, rfl, fun b k h1 h2 => xu_other h1, xu_at, by simp, fun i b hi => by simp at hi⟩)
set_option maxRecDepth 20000 in
theorem c_AN_put {b : Nat} (hL : xL P) (hO : xOt I W) (hr : W.length < 1767) : xMet l V y_AN_put 1 0 0 [xq (some 248), xi (nI b)] xS0 I J P (xPv (Qo (W ++ [b]) I J P)) := by
  refine e_AN_put (b_AN_put_0 hL ?_)
  rw [hO.1, ncl W.length, nI_1]
  refine pk_le 1767 W.length (fun z => by omega) (fun _ => ⟨pk_in W.length 1767 hr, rfl, rfl, fun b k h1 h2 => (xu_other h1).trans (xu_other (by omega)), ?_, by simp; omega, fun i c hi => ?_⟩)
  · rw [xu_at]; simp
  · rw [xu_other (by omega)]
    by_cases h : i < W.length
    · rw [List.getElem?_append_left h] at hi
      rw [xu_other (by omega)]
      exact hO.2.2 i c hi
    · rw [List.getElem?_append_right (by omega)] at hi
      have h8 : i = W.length := by
        have := (List.getElem?_eq_some_iff.mp hi).1
        simp at this
        omega
      subst h8
      simp at hi
      subst hi
      exact xu_at
set_option maxRecDepth 20000 in
theorem c_AN_wrap {g : Nat} {U C : List Nat} (hL : xL P) (hO : xOt I (U ++ C)) (hc : C.length < 256) (hr : (U ++ enc g C).length ≤ 1767) : xMet l V y_AN_wrap 1 0 0 [xq (some 248), xi (nI g), xi (nI U.length)] xS0 I J P (xPv (Qo (U ++ enc g C) I J P)) := by
  have hlen : (U ++ C).length = U.length + C.length := by simp
  have h1 := hO.1
  rw [hlen] at h1
  have hr' : U.length + C.length + (if C.length < 128 then 2 else 3) ≤ 1767 := by rw [List.length_append, enc_len] at hr; omega
  have hsub : nI (U.length + C.length) - nI U.length = nI C.length := by rw [pk_sub (by omega)]; congr 1; omega
  -- the bytes move up by h
  have loop : ∀ (h : Nat), h ≤ 3 → U.length + C.length + h ≤ 1767 → (∀ I2 : xIt, xSo I I2 → I2 248 1 = nI (U.length + C.length) → (∀ i b, i < U.length → (U ++ C)[i]? = some b → I2 249 i = nI b) → (∀ i b, U.length ≤ i → (U ++ C)[i]? = some b → I2 249 (i + h) = nI b) → ∀ v5 : Int32, v5 < nI U.length → G_AN_wrap l V (Qo (U ++ enc g C) I J P) 43 [(0, xq (some 248)), (1, xi (nI g)), (2, xi (nI U.length)), (3, xi (nI C.length)), (4, xi (nI h)), (5, xi v5)] [] I2 J P) → ∀ (n j : Nat) (v5 : Int32) (I1 : xIt), j = U.length + n → j ≤ U.length + C.length → (j = 0 → v5 = -1) → (0 < j → v5 = nI (j - 1)) → xSo I I1 → I1 248 1 = nI (U.length + C.length) → (∀ i b, i < j → (U ++ C)[i]? = some b → I1 249 i = nI b) → (∀ i b, j ≤ i → (U ++ C)[i]? = some b → I1 249 (i + h) = nI b) → G_AN_wrap l V (Qo (U ++ enc g C) I J P) 43 [(0, xq (some 248)), (1, xi (nI g)), (2, xi (nI U.length)), (3, xi (nI C.length)), (4, xi (nI h)), (5, xi v5)] [] I1 J P := by
    intro h hh hroom fin n
    induction n with
    | zero =>
      intro j v5 I1 hj hjl h0 hp hs h48 hlo hhi
      refine fin I1 hs h48 (fun i b hi => hlo i b (by omega)) (fun i b hi => hhi i b (by omega)) v5 ?_
      rcases Nat.eq_zero_or_pos j with hz | hz
      · rw [h0 hz, show U.length = 0 by omega]; decide
      · rw [hp hz]; exact nI_lt (by omega) (by omega)
    | succ n ih =>
      intro j v5 I1 hj hjl h0 hp hs h48 hlo hhi
      have hv := hp (by omega)
      subst hv
      have hjl' : j - 1 < (U ++ C).length := by rw [hlen]; omega
      have hg := List.getElem?_eq_getElem hjl'
      refine b_AN_wrap_43 hL (pk_lt (j - 1) U.length (fun z => by omega) (fun _ => ⟨pk_in (j - 1) 1767 (by omega), ?_⟩))
      rw [nI_add, ncl (j - 1), ncl (j - 1 + h), hlo (j - 1) _ (by omega) hg]
      refine ⟨pk_in (j - 1 + h) 1767 (by omega), ih (j - 1) _ _ (by omega) (by omega) (fun hz => ?_) (fun hz => ?_) (fun b k h1 h2 => (xu_other (by omega)).trans (hs b k h1 h2)) ((xu_other (by omega)).trans h48) (fun i b hi hb => ?_) (fun i b hi hb => ?_)⟩
      · rw [hz]; decide
      · rw [show j - 1 = (j - 1 - 1) + 1 by omega, pk_m1]; rfl
      · rw [xu_other (by omega)]; exact hlo i b (by omega) hb
      · by_cases hij : i = j - 1
        · subst hij
          rw [xu_at]
          rw [hg] at hb
          cases hb
          rfl
        · rw [xu_other (by omega)]; exact hhi i b (by omega) hb
  have hgl : ∀ i b, U[i]? = some b → (U ++ C)[i]? = some b := fun i b hb => by rw [List.getElem?_append_left (List.getElem?_eq_some_iff.mp hb).1]; exact hb
  have hgr : ∀ i b, C[i]? = some b → (U ++ C)[U.length + i]? = some b := fun i b hb => by rw [List.getElem?_append_right (by omega), Nat.add_sub_cancel_left]; exact hb
  refine e_AN_wrap (b_AN_wrap_0 hL ?_)
  rw [h1, hsub]
  have hv5 : ∀ z : 0 < U.length + C.length, nI (U.length + C.length) - 1 = nI (U.length + C.length - 1) := fun z => pk_sub (b := 1) (by omega)
  refine pk_le 128 C.length (fun z => ?_) (fun z => ?_)
  · rw [if_neg (by omega)] at hr'
    rw [nI_3]
    refine pk_le (U.length + C.length + 3) 1767 (fun _ => ?_) (fun z2 => by omega)
    refine loop 3 (by omega) (by omega) (fun I2 hs h48 hlo hhi v5 hv => ?_) C.length (U.length + C.length) _ I rfl (Nat.le_refl _) (fun hz => by omega) hv5 xSo.rfl h1 (fun i b hi hb => hO.2.2 i b hb) (fun i b hi hb => by have := (List.getElem?_eq_some_iff.mp hb).1; omega)
    refine b_AN_wrap_43 hL ⟨fun _ => ⟨pk_in U.length 1767 (by omega), fun _ => ?_, fun z => absurd z (by decide)⟩, fun z => absurd hv z⟩
    rw [nI_1, nI_2, ncl U.length, ncl (U.length + 1), ncl (U.length + 2), h48, nI_add]
    refine ⟨pk_in (U.length + 1) 1767 (by omega), fun z => absurd rfl z, fun _ => ⟨pk_in (U.length + 2) 1767 (by omega), rfl, rfl, fun b k h1 h2 => (xu_other (by omega)).trans ((xu_other (by omega)).trans ((xu_other (by omega)).trans ((xu_other h1).trans (hs b k h1 h2)))), ?_, hr, fun i b hi => ?_⟩⟩
    · rw [xu_other (by omega), xu_other (by omega), xu_other (by omega), xu_at, List.length_append, enc_len, if_neg (by omega), Nat.add_assoc]
    · have he : enc g C = g :: ([129, C.length] ++ C) := by rw [enc, hdr, if_neg (by omega)]
      rw [he] at hi
      rcases enc_get hi with ⟨h3, h4⟩ | ⟨h3, h4⟩ | ⟨j, h3, h4⟩ | ⟨j, h3, h4⟩
      · rw [xu_other (by omega), xu_other (by omega), xu_other (by omega), xu_other (by omega)]
        exact hlo i b h3 (hgl i b h4)
      · rw [xu_other (by omega), xu_other (by omega), h3, xu_at, h4]
      · have hj := (List.getElem?_eq_some_iff.mp h4).1
        simp at hj
        have hj2 : j = 0 ∨ j = 1 := by omega
        rcases hj2 with rfl | rfl
        · simp at h4
          rw [xu_other (by omega), show i = U.length + 1 by omega, xu_at, ← h4]
          rfl
        · simp at h4
          rw [show i = U.length + 2 by omega, xu_at, ← h4]
      · simp at h3
        rw [xu_other (by omega), xu_other (by omega), xu_other (by omega), xu_other (by omega), show i = U.length + j + 3 by omega]
        exact hhi _ b (by omega) (hgr j b h4)
  · rw [if_pos (by omega)] at hr'
    rw [nI_2]
    refine pk_le (U.length + C.length + 2) 1767 (fun _ => ?_) (fun z2 => by omega)
    refine loop 2 (by omega) (by omega) (fun I2 hs h48 hlo hhi v5 hv => ?_) C.length (U.length + C.length) _ I rfl (Nat.le_refl _) (fun hz => ?_) hv5 xSo.rfl h1 (fun i b hi hb => hO.2.2 i b hb) (fun i b hi hb => by have := (List.getElem?_eq_some_iff.mp hb).1; omega)
    · refine b_AN_wrap_43 hL ⟨fun _ => ⟨pk_in U.length 1767 (by omega), fun z => absurd rfl z, fun _ => ?_⟩, fun z => absurd hv z⟩
      rw [nI_1, ncl U.length, ncl (U.length + 1), h48, nI_add]
      refine ⟨pk_in (U.length + 1) 1767 (by omega), fun _ => ⟨rfl, rfl, fun b k h1 h2 => (xu_other (by omega)).trans ((xu_other (by omega)).trans ((xu_other h1).trans (hs b k h1 h2))), ?_, hr, fun i b hi => ?_⟩, fun z => absurd z (by decide)⟩
      · rw [xu_other (by omega), xu_other (by omega), xu_at, List.length_append, enc_len, if_pos (by omega), Nat.add_assoc]
      · have he : enc g C = g :: ([C.length] ++ C) := by rw [enc, hdr, if_pos (by omega)]
        rw [he] at hi
        rcases enc_get hi with ⟨h3, h4⟩ | ⟨h3, h4⟩ | ⟨j, h3, h4⟩ | ⟨j, h3, h4⟩
        · rw [xu_other (by omega), xu_other (by omega), xu_other (by omega)]
          exact hlo i b h3 (hgl i b h4)
        · rw [xu_other (by omega), h3, xu_at, h4]
        · have hj := (List.getElem?_eq_some_iff.mp h4).1
          simp at hj
          subst hj
          simp at h4
          rw [show i = U.length + 1 by omega, xu_at, ← h4]
        · simp at h3
          rw [xu_other (by omega), xu_other (by omega), xu_other (by omega), show i = U.length + j + 2 by omega]
          exact hhi _ b (by omega) (hgr j b h4)
    · rw [hz]; decide
end XAN

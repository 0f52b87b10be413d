/-! the class's readers of a message, in the same words -/
theorem x_i8 : ∀ b, b < 256 → (nI b).toInt8.toInt32 = nb b := by decide +kernel
theorem x_or8 (x : Int32) {c : Nat} (hc : c < 256) : (x <<< ((8 : Int32) &&& 31)) ||| nI c = 256 * x + nI c := by
  apply Int32.toBitVec_inj.mp
  have e1 : (x <<< ((8 : Int32) &&& 31)).toBitVec = x.toBitVec <<< 8 := rfl
  have e2 : (nI c).toBitVec = BitVec.ofNat 32 c := rfl
  have e3 : x.toBitVec <<< 8 = (256 : Int32).toBitVec * x.toBitVec := by
    rw [BitVec.shiftLeft_eq_mul_twoPow, BitVec.mul_comm]
    rfl
  rw [Int32.toBitVec_or, Int32.toBitVec_add, Int32.toBitVec_mul, e1, e2, ← e3]
  refine (BitVec.add_eq_or_of_and_eq_zero _ _ ?_).symm
  apply BitVec.eq_of_getLsbD_eq
  intro i hi
  rw [BitVec.getLsbD_and, BitVec.getLsbD_shiftLeft, BitVec.getLsbD_ofNat]
  by_cases h8 : i < 8
  · simp [h8]
  · have hz : c.testBit i = false := Nat.testBit_lt_two_pow (Nat.lt_of_lt_of_le hc (Nat.pow_le_pow_right (n := 2) (by decide) (show 8 ≤ i by omega)))
    simp [hz]
def dO (o : Nat) (ks as : List Nat) (a k : Nat) : Bool := (a == o && ks.contains k) || as.contains a
theorem dO_mono {o : Nat} {ks ks' as as' : List Nat} (h1 : ks.all (fun x => ks'.contains x) = true) (h2 : as.all (fun x => as'.contains x) = true) (a k : Nat) (h : dO o ks' as' a k = false) : dO o ks as a k = false := by
  simp only [dO, Bool.or_eq_false_iff, Bool.and_eq_false_iff] at h ⊢
  obtain ⟨h3, h4⟩ := h
  refine ⟨?_, ?_⟩
  · rcases h3 with h3 | h3
    · exact Or.inl h3
    · refine Or.inr ?_
      cases hc : ks.contains k with
      | false => rfl
      | true =>
        have h5 := List.all_eq_true.mp h1 k (by simpa using hc)
        rw [h5] at h3
        cases h3
  · cases hc : as.contains a with
    | false => rfl
    | true =>
      have h5 := List.all_eq_true.mp h2 a (by simpa using hc)
      rw [h5] at h4
      cases h4
theorem xsm.O {I I' : xIt} {o : Nat} {ks as ks' as' : List Nat} (h : xsm (dO o ks as) I I') (hk : ks.all (fun x => ks'.contains x) = true) (ha : as.all (fun x => as'.contains x) = true) : xsm (dO o ks' as') I I' := fun a k hd => h a k (dO_mono hk ha a k hd)
theorem tl_255 {m : Nat → Nat} {p e t f u : Nat} (hb : ∀ j, j < e → m j < 256) (h : tl m p e = some (t, f, u)) : u - f ≤ 255 := by
  unfold tl at h
  repeat' split at h
  all_goals first | (cases h; done) | (cases h; have h1 := hb (p + 1) (by omega); omega) | (cases h; have h1 := hb (p + 2) (by omega); omega)
/-- the end of an optional stretch, or -1 -/
def xOn (o : Option (Nat × Nat)) (r : Int32) (A : Nat × Nat → Prop) (B : Prop) : Prop := match o with
  | some q => r = nI q.2 ∧ A q
  | none => r = -1 ∧ B
theorem xOn.n {o : Option (Nat × Nat)} {r : Int32} {A : Nat × Nat → Prop} {B : Prop} (h : o = none) (hr : r = -1) (hB : B) : xOn o r A B := by rw [h]; exact ⟨hr, hB⟩
theorem xOn.s {o : Option (Nat × Nat)} {r : Int32} {A : Nat × Nat → Prop} {B : Prop} {q : Nat × Nat} (h : o = some q) (hr : r = nI q.2) (hA : A q) : xOn o r A B := by rw [h]; exact ⟨hr, hA⟩
theorem x_on {o : Option (Nat × Nat)} {r : Int32} {A : Nat × Nat → Prop} {B X Y : Prop} (h : xOn o r A B) (hb : ∀ q, o = some q → q.2 < 100000) (hn : o = none → r = -1 → B → X) (hs : ∀ q, o = some q → r = nI q.2 → A q → Y) : (r < 0 → X) ∧ (¬ r < 0 → Y) := by
  cases ho : o with
  | none =>
    rw [ho] at h
    obtain ⟨h1, h2⟩ := h
    exact ⟨fun _ => hn ho h1 h2, fun c => absurd (by rw [h1]; decide) c⟩
  | some q =>
    rw [ho] at h
    obtain ⟨h1, h2⟩ := h
    have hq := hb q ho
    exact ⟨fun c => absurd (h1 ▸ c) (nI_pos (by omega)), fun _ => hs q ho h1 h2⟩
def QE (m : Nat → Nat) (w p e : Nat) (I : xIt) (J : xJt) (P : xPt) : Int32 → xIt → xJt → xPt → Prop := fun r I' J' P' => J = J' ∧ P = P' ∧ xOn (tk m w 255 p e) r (fun q => I' = xu I 1 1 (nI q.1)) (I' = I)
set_option maxRecDepth 20000 in
theorem c_RQ_enter {l : Launch} {V : xV} {I : xIt} {J : xJt} {P : xPt} {m : Nat → Nat} {w p e : Nat} (hL : xL P) (hm : xMs I 2 m e) (he : e ≤ 153) (hp : p ≤ e) (hw : w < 256) (hat : I 1 1 = nI p) : xMet l V y_RQ_enter 1 0 0 [xq (some 1), xi (nI w), xi (nI e)] xS0 I J P (xPi (QE m w p e I J P)) := by
  have hbb : ∀ j, j < e → m j < 256 := fun j hj => (hm j hj).2
  have htk : ∀ {t f u : Nat}, tl m p e = some (t, f, u) → tk m w 255 p e = if t = w then some (f, u) else none := by
    intro t f u h
    have h2 := tl_255 hbb h
    by_cases hc : t = w
    · simp only [tk, h, if_pos hc, if_pos (show t = w ∧ u - f ≤ 255 from ⟨hc, h2⟩)]
    · simp only [tk, h, if_neg hc, if_neg (show ¬ (t = w ∧ u - f ≤ 255) from fun z => hc z.1)]
  have hnone : tl m p e = none → tk m w 255 p e = none := fun h => by simp only [tk, h]
  have no : tk m w 255 p e = none → QE m w p e I J P (-1) I J P := fun h => ⟨rfl, rfl, xOn.n h rfl rfl⟩
  refine e_RQ_enter (b_RQ_enter_0 hL ?_)
  rw [hat, pk_sub hp]
  simp only [nI_1, nI_2]
  refine pk_lt (e - p) 2 (fun c => no (hnone (by simp only [tl, if_neg (show ¬ p + 2 ≤ e by omega)]))) (fun c => ⟨pk_in p 153 (by omega), ?_⟩)
  have hc : p + 2 ≤ e := by omega
  have h0 := hm p (by omega)
  have h1 := hm (p + 1) (by omega)
  have hb0 := h0.2
  have hb1 := h1.2
  rw [pk_cl p, pk_cl (p + 1), pk_cl (p + 2), h0.1, h1.1]
  refine pk_eq (m p) w (fun cw => ⟨pk_in (p + 1) 153 (by omega), ?_⟩) (fun cw => no ?_)
  · refine (pk_eq (m (p + 1)) 129 (fun c1 => ?_) (fun c1 => ?_)).symm
    · refine pk_le e (p + 2) (fun c2 => ?_) (fun c2 => ⟨pk_in (p + 2) 153 (by omega), ?_⟩)
      · refine b_RQ_enter_72 hL ?_
        exact pk_lt (m (p + 1)) 128 (fun z => by omega) (fun z => no (hnone (by simp only [tl, if_pos hc, if_pos c1, if_neg (show ¬ p + 2 < e by omega)])))
      · have h2 := hm (p + 2) (by omega)
        have hb2 := h2.2
        rw [h2.1, pk_sub (show p + 2 + 1 ≤ e by omega), nI_add]
        refine pk_le (m (p + 2)) (e - (p + 2 + 1)) (fun c3 => ?_) (fun c3 => no (hnone (by simp only [tl, if_pos hc, if_pos c1, if_pos (show p + 2 < e by omega), if_neg (show ¬ p + 3 + m (p + 2) ≤ e by omega)])))
        have ht : tl m p e = some (m p, p + 3, p + 3 + m (p + 2)) := by simp only [tl, if_pos hc, if_pos c1, if_pos (show p + 2 < e by omega), if_pos (show p + 3 + m (p + 2) ≤ e by omega)]
        exact ⟨rfl, rfl, xOn.s (q := (p + 3, p + 3 + m (p + 2))) (by rw [htk ht, if_pos cw]) rfl rfl⟩
    · refine b_RQ_enter_72 hL ?_
      rw [pk_sub hc, nI_add]
      refine pk_lt (m (p + 1)) 128 (fun c2 => ?_) (fun c2 => no (hnone (by simp only [tl, if_pos hc, if_neg c1, if_neg (show ¬ m (p + 1) ≤ 127 by omega)])))
      refine pk_le (m (p + 1)) (e - (p + 2)) (fun c3 => ?_) (fun c3 => no (hnone (by simp only [tl, if_pos hc, if_neg c1, if_pos (show m (p + 1) ≤ 127 by omega), if_neg (show ¬ p + 2 + m (p + 1) ≤ e by omega)])))
      have ht : tl m p e = some (m p, p + 2, p + 2 + m (p + 1)) := by simp only [tl, if_pos hc, if_neg c1, if_pos (show m (p + 1) ≤ 127 by omega), if_pos (show p + 2 + m (p + 1) ≤ e by omega)]
      exact ⟨rfl, rfl, xOn.s (q := (p + 2, p + 2 + m (p + 1))) (by rw [htk ht, if_pos cw]) rfl rfl⟩
  · cases hx : tl m p e with
    | none => exact hnone hx
    | some x =>
      obtain ⟨t, f, u⟩ := x
      rw [htk hx, if_neg (by rw [(tl_bd hx).1]; exact cw)]

/-! the reference's small readers -/
theorem tl_bd {m : Nat → Nat} {p e t f u : Nat} (h : tl m p e = some (t, f, u)) : t = m p ∧ p + 2 ≤ f ∧ f ≤ p + 3 ∧ f ≤ u ∧ u ≤ e ∧ p < e := by
  unfold tl at h
  repeat' split at h
  all_goals first | (cases h; done) | (cases h; refine ⟨rfl, ?_, ?_, ?_, ?_, ?_⟩ <;> omega)
/-- the value at p has the tag w and at most 'most' bytes: its begin and end -/
def tk (m : Nat → Nat) (w most p e : Nat) : Option (Nat × Nat) := match tl m p e with
  | some q => if q.1 = w ∧ q.2.2 - q.2.1 ≤ most then some q.2 else none
  | none => none
theorem tk_bd {m : Nat → Nat} {w most p e f u : Nat} (h : tk m w most p e = some (f, u)) : m p = w ∧ p + 2 ≤ f ∧ f ≤ p + 3 ∧ f ≤ u ∧ u ≤ e ∧ u - f ≤ most ∧ p < e := by
  unfold tk at h
  cases ht : tl m p e with
  | none => rw [ht] at h; cases h
  | some q =>
    obtain ⟨t, f', u'⟩ := q
    rw [ht] at h
    have b := tl_bd ht
    by_cases hc : t = w ∧ u' - f' ≤ most
    · have h : (if t = w ∧ u' - f' ≤ most then some (f', u') else none) = some (f, u) := h
      rw [if_pos hc] at h
      cases h
      exact ⟨b.1 ▸ hc.1, b.2.1, b.2.2.1, b.2.2.2.1, b.2.2.2.2.1, hc.2, b.2.2.2.2.2⟩
    · have h : (if t = w ∧ u' - f' ≤ most then some (f', u') else none) = some (f, u) := h
      rw [if_neg hc] at h
      cases h
def dK (a k : Nat) : Bool := a == 250 && (k == 3 || k == 4 || k == 5 || k == 6)
theorem dT_K {a k : Nat} (h : dK a k = false) : dT a k = false := by
  simp only [dK, dT, Bool.and_eq_false_iff, Bool.or_eq_false_iff] at h ⊢
  rcases h with h | h
  · exact Or.inl h
  · exact Or.inr ⟨⟨h.1.1.1, h.1.1.2⟩, h.1.2⟩
def QK (m : Nat → Nat) (w most p e : Nat) (I : xIt) (J : xJt) (P : xPt) : Int32 → xIt → xJt → xPt → Prop := fun r I' J' P' => J = J' ∧ P = P' ∧ xsm dK I I' ∧ match tk m w most p e with
  | some q => r = 1 ∧ I' 250 4 = nI q.1 ∧ I' 250 5 = nI q.2 ∧ I' 250 6 = nI q.2
  | none => r = 0
set_option maxRecDepth 20000 in
theorem c_RF_take {l : Launch} {V : xV} {I : xIt} {J : xJt} {P : xPt} {m : Nat → Nat} {w most p e : Nat} (hL : xL P) (hm : xMs I 251 m e) (he : e ≤ 160) (hp : p < 1000) (hw : w < 256) (hmo : most < 256) (hat : I 250 6 = nI p) : xMet l V y_RF_take 2 0 0 [xq (some 250), xi (nI w), xi (nI most), xi (nI e)] xS0 I J P (xPi (QK m w most p e I J P)) := by
  refine e_RF_take (b_RF_take_0 hL ⟨QT m p e I J P, by rw [hat]; exact c_RF_tlv hL hm he hp, ?_⟩)
  rintro r I1 _ _ ⟨rfl, rfl, hs, ht⟩
  have hs' : xsm dK I I1 := hs.mono (fun _ _ => dT_K)
  cases hq : tl m p e with
  | none =>
    rw [hq] at ht
    have ht : r = 0 := ht
    subst ht
    refine ⟨fun _ => ⟨rfl, rfl, hs', ?_⟩, fun c => absurd rfl c⟩
    simp only [tk, hq]
  | some q =>
    obtain ⟨t, f, u⟩ := q
    rw [hq] at ht
    obtain ⟨rfl, h3, h4, h5⟩ := ht
    have b := tl_bd hq
    have ht6 : t < 256 := by rw [b.1]; exact (hm p b.2.2.2.2.2).2
    refine ⟨fun c => absurd c (by decide), fun _ => ?_⟩
    rw [h3, h4, h5]
    refine (pk_eq t w (fun c => ?_) (fun c => ⟨rfl, rfl, hs', ?_⟩)).symm
    · rw [pk_sub (show f ≤ u from b.2.2.2.1)]
      refine pk_le (u - f) most (fun c2 => ⟨rfl, rfl, hs'.put rfl, ?_⟩) (fun c2 => ⟨rfl, rfl, hs', ?_⟩)
      · have htk : tk m w most p e = some (f, u) := by simp only [tk, hq, if_pos (show t = w ∧ u - f ≤ most from ⟨c, c2⟩)]
        rw [htk]
        exact ⟨rfl, h4, h5, rfl⟩
      · simp only [tk, hq, if_neg (show ¬ (t = w ∧ u - f ≤ most) by omega)]
    · simp only [tk, hq, if_neg (show ¬ (t = w ∧ u - f ≤ most) from fun z => c z.1)]
def dI (a k : Nat) : Bool := a == 250 && (k == 3 || k == 4 || k == 5 || k == 6 || k == 7)
theorem dK_I {a k : Nat} (h : dI a k = false) : dK a k = false := by
  simp only [dK, dI, Bool.and_eq_false_iff, Bool.or_eq_false_iff] at h ⊢
  rcases h with h | h
  · exact Or.inl h
  · exact Or.inr h.1
/-- a number of one or two bytes, with its sign -/
def nb (b : Nat) : Int32 := if b ≤ 127 then nI b else nI b - 256
def ig (m : Nat → Nat) (p e : Nat) : Option (Int32 × Nat) := match tk m 2 2 p e with
  | some q => if q.1 = q.2 then none else if q.2 - q.1 = 1 then some (nb (m q.1), q.2) else some (256 * nb (m q.1) + nI (m (q.1 + 1)), q.2)
  | none => none
def QI (m : Nat → Nat) (p e : Nat) (I : xIt) (J : xJt) (P : xPt) : Int32 → xIt → xJt → xPt → Prop := fun r I' J' P' => J = J' ∧ P = P' ∧ xsm dI I I' ∧ match ig m p e with
  | some q => r = 1 ∧ I' 250 7 = q.1 ∧ I' 250 6 = nI q.2
  | none => r = 0
set_option maxRecDepth 20000 in
theorem c_RF_integer {l : Launch} {V : xV} {I : xIt} {J : xJt} {P : xPt} {m : Nat → Nat} {p e : Nat} (hL : xL P) (hm : xMs I 251 m e) (he : e ≤ 160) (hp : p < 1000) (hat : I 250 6 = nI p) : xMet l V y_RF_integer 3 0 0 [xq (some 250), xi (nI e)] xS0 I J P (xPi (QI m p e I J P)) := by
  refine e_RF_integer (b_RF_integer_0 hL ⟨QK m 2 2 p e I J P, c_RF_take hL hm he hp (by decide) (by decide) hat, ?_⟩)
  rintro r I1 _ _ ⟨rfl, rfl, hs, ht⟩
  have hs' : xsm dI I I1 := hs.mono (fun _ _ => dK_I)
  cases hq : tk m 2 2 p e with
  | none =>
    rw [hq] at ht
    have ht : r = 0 := ht
    subst ht
    refine ⟨fun _ => ⟨rfl, rfl, hs', ?_⟩, fun c => absurd rfl c⟩
    simp only [ig, hq]
  | some q =>
    obtain ⟨f, u⟩ := q
    rw [hq] at ht
    obtain ⟨rfl, h4, h5, h6⟩ := ht
    have b := tk_bd hq
    have hm1 := hm.sm hs (fun j => rfl)
    refine ⟨fun c => absurd c (by decide), fun _ => ?_⟩
    rw [h4, h5]
    refine (pk_eq u f (fun c => ⟨rfl, rfl, hs', ?_⟩) (fun c => ⟨pk_in f 160 (by omega), ?_⟩)).symm
    · simp only [ig, hq, if_pos c.symm]
    · have tail : G_RF_integer l V (QI m p e I J P) 62 [(0, xq (some 250)), (1, xi (nI e))] [xi (nb (m f))] I1 J P := by
        refine b_RF_integer_62 hL ?_
        rw [h4, h5, pk_sub (show f ≤ u by omega), nI_1]
        refine (pk_eq (u - f) 1 (fun c1 => ⟨rfl, rfl, hs'.put rfl, ?_⟩) (fun c1 => ⟨pk_in (f + 1) 160 (by omega), rfl, rfl, hs'.put rfl, ?_⟩)).symm
        · have hig : ig m p e = some (nb (m f), u) := by simp only [ig, hq, if_neg (show ¬ f = u by omega), if_pos c1]
          rw [hig]
          exact ⟨rfl, rfl, h6⟩
        · rw [pk_cl (f + 1), (hm1 (f + 1) (by omega)).1]
          have hig : ig m p e = some (256 * nb (m f) + nI (m (f + 1)), u) := by simp only [ig, hq, if_neg (show ¬ f = u by omega), if_neg c1]
          rw [hig]
          exact ⟨rfl, rfl, h6⟩
      have hmf := (hm1 f (by omega))
      rw [pk_cl f, hmf.1]
      have h2 := hmf.2
      refine pk_le (m f) 127 (fun c1 => ⟨pk_in f 160 (by omega), ?_⟩) (fun c1 => ⟨pk_in f 160 (by omega), ?_⟩)
      · rw [nb, if_pos c1] at tail
        exact tail
      · rw [nb, if_neg (by omega)] at tail
        exact tail

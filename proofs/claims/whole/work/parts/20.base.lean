/-! words of the contracts: what stays, the message's bytes, a value's head -/
def xsm (D : Nat → Nat → Bool) (I I' : xIt) : Prop := ∀ a k, D a k = false → I' a k = I a k
theorem xsm.rfl {D : Nat → Nat → Bool} {I : xIt} : xsm D I I := fun _ _ _ => Eq.refl _
theorem xsm.trans {D : Nat → Nat → Bool} {I I1 I2 : xIt} (h : xsm D I I1) (h2 : xsm D I1 I2) : xsm D I I2 := fun a k hd => (h2 a k hd).trans (h a k hd)
theorem xsm.mono {D D' : Nat → Nat → Bool} {I I1 : xIt} (h : xsm D I I1) (hd : ∀ a k, D' a k = false → D a k = false) : xsm D' I I1 := fun a k hk => h a k (hd a k hk)
theorem xsm.put {D : Nat → Nat → Bool} {I I1 : xIt} {a k : Nat} {v : Int32} (h : xsm D I I1) (hd : D a k = true) : xsm D I (xu I1 a k v) := by
  intro b j hb
  by_cases hc : b = a ∧ j = k
  · obtain ⟨rfl, rfl⟩ := hc
    rw [hd] at hb
    cases hb
  · show (if b = a ∧ j = k then v else I1 b j) = I b j
    rw [if_neg hc]
    exact h b j hb
theorem xu_eq {α : Type} {f : Nat → Nat → α} {a k b j : Nat} {v : α} (h : b = a ∧ j = k) : xu f a k v b j = v := if_pos h
theorem xu_other {α : Type} {f : Nat → Nat → α} {a k b j : Nat} {v : α} (h : ¬ (b = a ∧ j = k)) : xu f a k v b j = f b j := if_neg h
theorem nI_2 (a : Nat) : nI a + 2 = nI (a + 2) := nI_add a 2
theorem nI_3 (a : Nat) : nI a + 3 = nI (a + 3) := nI_add a 3
theorem nI_8 (a : Nat) : nI a + 8 = nI (a + 8) := nI_add a 8
/-- the first e ints of the array a are bytes m -/
def xMs (I : xIt) (a : Nat) (m : Nat → Nat) (e : Nat) : Prop := ∀ j, j < e → I a j = nI (m j) ∧ m j < 256
theorem xMs.sm {D : Nat → Nat → Bool} {I I' : xIt} {a e : Nat} {m : Nat → Nat} (h : xMs I a m e) (hs : xsm D I I') (hd : ∀ j, D a j = false) : xMs I' a m e := fun j hj => ⟨(hs a j (hd j)).trans (h j hj).1, (h j hj).2⟩
/-- tag, begin and end of the value at p that ends at or before e -/
def tl (m : Nat → Nat) (p e : Nat) : Option (Nat × Nat × Nat) :=
  if p + 2 ≤ e then
    if m (p + 1) = 129 then
      if p + 2 < e then
        if p + 3 + m (p + 2) ≤ e then some (m p, p + 3, p + 3 + m (p + 2)) else none
      else none
    else if m (p + 1) ≤ 127 then
      if p + 2 + m (p + 1) ≤ e then some (m p, p + 2, p + 2 + m (p + 1)) else none
    else none
  else none
def dT (a k : Nat) : Bool := a == 250 && (k == 3 || k == 4 || k == 5)
def QT (m : Nat → Nat) (p e : Nat) (I : xIt) (J : xJt) (P : xPt) : Int32 → xIt → xJt → xPt → Prop := fun r I' J' P' => J = J' ∧ P = P' ∧ xsm dT I I' ∧ match tl m p e with
  | some q => r = 1 ∧ I' 250 3 = nI q.1 ∧ I' 250 4 = nI q.2.1 ∧ I' 250 5 = nI q.2.2
  | none => r = 0
set_option maxRecDepth 20000 in
theorem c_RF_tlv {l : Launch} {V : xV} {I : xIt} {J : xJt} {P : xPt} {m : Nat → Nat} {p e : Nat} (hL : xL P) (hm : xMs I 251 m e) (he : e ≤ 160) (hp : p < 1000) : xMet l V y_RF_tlv 1 0 0 [xq (some 250), xi (nI p), xi (nI e)] xS0 I J P (xPi (QT m p e I J P)) := by
  have hs3 : ∀ x y z, xsm dT I (xu (xu (xu I 250 3 x) 250 4 y) 250 5 z) := fun x y z => ((xsm.rfl.put rfl).put rfl).put rfl
  have tail : ∀ (h n : Nat), p < e → n < 256 → h ≤ e → (tl m p e = if h + n ≤ e then some (m p, h, h + n) else none) → G_RF_tlv l V (QT m p e I J P) 60 [(0, xq (some 250)), (1, xi (nI p)), (2, xi (nI e)), (3, xi (nI n)), (4, xi (nI h))] [] I J P := by
    intro h n hpe hn hh ht
    refine b_RF_tlv_60 hL ⟨pk_in p 160 (by omega), ?_⟩
    rw [pk_cl p, (hm p hpe).1, nI_add]
    refine pk_lt e (h + n) (fun c => ⟨rfl, rfl, hs3 _ _ _, ?_⟩) (fun c => ⟨rfl, rfl, hs3 _ _ _, ?_⟩)
    · rw [ht, if_neg (by omega)]
    · rw [ht, if_pos (by omega)]
      exact ⟨rfl, rfl, rfl, rfl⟩
  refine e_RF_tlv (b_RF_tlv_0 hL ?_)
  simp only [nI_1, nI_2]
  refine pk_le (p + 2) e (fun c => ⟨pk_in (p + 1) 160 (by omega), ?_⟩) (fun c => ?_)
  · have h1 := (hm (p + 1) (by omega)).2
    rw [pk_cl (p + 1), (hm (p + 1) (by omega)).1]
    refine (pk_eq (m (p + 1)) 129 (fun c1 => ?_) (fun c1 => ?_)).symm
    · refine pk_lt (p + 2) e (fun c2 => ⟨pk_in (p + 2) 160 (by omega), ?_⟩) (fun c2 => ?_)
      · have h2 := (hm (p + 2) (by omega)).2
        rw [pk_cl (p + 2), (hm (p + 2) (by omega)).1]
        exact tail (p + 3) (m (p + 2)) (by omega) h2 (by omega) (by simp only [tl, if_pos c, if_pos c1, if_pos c2])
      · refine ⟨rfl, rfl, xsm.rfl, ?_⟩
        simp only [tl, if_pos c, if_pos c1, if_neg (show ¬ p + 2 < e by omega)]
    · refine pk_le (m (p + 1)) 127 (fun c2 => ?_) (fun c2 => ?_)
      · exact tail (p + 2) (m (p + 1)) (by omega) h1 (by omega) (by simp only [tl, if_pos c, if_neg c1, if_pos c2])
      · refine ⟨rfl, rfl, xsm.rfl, ?_⟩
        simp only [tl, if_pos c, if_neg c1, if_neg (show ¬ m (p + 1) ≤ 127 by omega)]
  · refine ⟨rfl, rfl, xsm.rfl, ?_⟩
    simp only [tl, if_neg (show ¬ p + 2 ≤ e by omega)]

/-! the class's numbers, single bytes and texts -/
theorem tk_255 {m : Nat → Nat} {w most p e : Nat} (hb : ∀ j, j < e → m j < 256) : tk m w most p e = match tk m w 255 p e with
    | some q => if q.2 - q.1 ≤ most then some q else none
    | none => none := by
  cases h : tl m p e with
  | none => simp only [tk, h]
  | some x =>
    obtain ⟨t, f, u⟩ := x
    have h2 := tl_255 hb h
    by_cases hc : t = w
    · simp only [tk, h, if_pos (show t = w ∧ u - f ≤ 255 from ⟨hc, h2⟩)]
      by_cases hm : u - f ≤ most
      · simp only [if_pos hm, if_pos (show t = w ∧ u - f ≤ most from ⟨hc, hm⟩)]
      · simp only [if_neg hm, if_neg (show ¬ (t = w ∧ u - f ≤ most) from fun z => hm z.2)]
    · simp only [tk, h, if_neg (show ¬ (t = w ∧ u - f ≤ 255) from fun z => hc z.1), if_neg (show ¬ (t = w ∧ u - f ≤ most) from fun z => hc z.1)]
theorem nb_toInt : ∀ b, b < 256 → (nb b).toInt = if b ≤ 127 then (b : Int) else (b : Int) - 256 := by decide +kernel
theorem ig_ne {m : Nat → Nat} {p e : Nat} {q : Int32 × Nat} (hb : ∀ j, j < e → m j < 256) (h : ig m p e = some q) : q.1.toInt ≥ -32768 ∧ q.1.toInt ≤ 32767 := by
  unfold ig at h
  cases ht : tk m 2 2 p e with
  | none => rw [ht] at h; cases h
  | some r =>
    obtain ⟨f, u⟩ := r
    rw [ht] at h
    have b := tk_bd ht
    by_cases h1 : f = u
    · simp [h1] at h
    · have hf := nb_toInt (m f) (hb f (by omega))
      have hf6 := hb f (by omega)
      by_cases h2 : u - f = 1
      · simp only [if_neg h1, if_pos h2] at h
        cases h
        show (nb (m f)).toInt ≥ -32768 ∧ (nb (m f)).toInt ≤ 32767
        rw [hf]
        split <;> omega
      · simp only [if_neg h1, if_neg h2] at h
        cases h
        show (256 * nb (m f) + nI (m (f + 1))).toInt ≥ -32768 ∧ (256 * nb (m f) + nI (m (f + 1))).toInt ≤ 32767
        have hg := hb (f + 1) (by omega)
        have e0 : (256 : Int32).toInt = 256 := by decide
        have hx : (256 * nb (m f)).toInt = 256 * (nb (m f)).toInt := by
          rw [Int32.toInt_mul, e0]
          refine Int.bmod_eq_of_le ?_ ?_ <;> (rw [hf]; split <;> omega)
        have hy : (256 * nb (m f) + nI (m (f + 1))).toInt = 256 * (nb (m f)).toInt + (m (f + 1) : Int) := by
          rw [Int32.toInt_add, hx, nI_toInt (by omega)]
          refine Int.bmod_eq_of_le ?_ ?_ <;> (rw [hf]; split <;> omega)
        rw [hy, hf]
        split <;> omega
/-- a value or another int -/
def xOr {α : Type} (o : Option α) (r d : Int32) (val : α → Int32) (A : α → Prop) : Prop := match o with
  | some q => r = val q ∧ A q
  | none => r = d
theorem xOr.n {α : Type} {o : Option α} {r d : Int32} {val : α → Int32} {A : α → Prop} (h : o = none) (hr : r = d) : xOr o r d val A := by rw [h]; exact hr
theorem xOr.s {α : Type} {o : Option α} {r d : Int32} {val : α → Int32} {A : α → Prop} {q : α} (h : o = some q) (hr : r = val q) (hA : A q) : xOr o r d val A := by rw [h]; exact ⟨hr, hA⟩
def QN (m : Nat → Nat) (p e : Nat) (I : xIt) (J : xJt) (P : xPt) : Int32 → xIt → xJt → xPt → Prop := fun r I' J' P' => J = J' ∧ P = P' ∧ xsm (dO 1 [1] []) I I' ∧ xOr (ig m p e) r (-65536) (fun q => q.1) (fun q => I' 1 1 = nI q.2)
set_option maxRecDepth 20000 in
theorem c_RQ_readNumber {l : Launch} {V : xV} {I : xIt} {J : xJt} {P : xPt} {m : Nat → Nat} {p e : Nat} (hL : xL P) (hm : xMs I 2 m e) (he : e ≤ 153) (hp : p ≤ e) (hat : I 1 1 = nI p) : xMet l V y_RQ_readNumber 2 0 0 [xq (some 1), xi (nI e)] xS0 I J P (xPi (QN m p e I J P)) := by
  have hbb : ∀ j, j < e → m j < 256 := fun j hj => (hm j hj).2
  have h2 := tk_255 (m := m) (w := 2) (most := 2) (p := p) (e := e) hbb
  refine e_RQ_readNumber (b_RQ_readNumber_0 hL ⟨QE m 2 p e I J P, c_RQ_enter hL hm he hp (by decide) hat, ?_⟩)
  rintro r I1 _ _ ⟨rfl, rfl, o⟩
  refine x_on o (fun q hq => by have := tk_bd (f := q.1) (u := q.2) hq; omega) (fun hn _ hI => ⟨rfl, rfl, by rw [hI]; exact xsm.rfl, xOr.n (by rw [hn] at h2; simp only [ig, h2]) rfl⟩) (fun q hq hr hI => ?_)
  subst hI
  obtain ⟨f, u⟩ := q
  have hr : r = nI u := hr
  subst hr
  have b := tk_bd hq
  rw [hq] at h2
  have s1 : xsm (dO 1 [1] []) I (xu I 1 1 (nI f)) := xsm.rfl.put rfl
  have hm1 := hm.sm s1 (fun j => rfl)
  rw [show xu I 1 1 (nI f) 1 1 = nI f from rfl, pk_sub (show f ≤ u by omega), nI_1]
  refine pk_lt (u - f) 1 (fun c => ⟨rfl, rfl, s1, xOr.n ?_ rfl⟩) (fun c => ?_)
  · have hu : f = u := by omega
    simp only [if_pos (show u - f ≤ 2 by omega)] at h2
    simp only [ig, h2, if_pos hu]
  · refine pk_le (u - f) 2 (fun c2 => ⟨pk_in f 153 (by omega), ?_⟩) (fun c2 => ⟨rfl, rfl, s1, xOr.n ?_ rfl⟩)
    · simp only [if_pos (show u - f ≤ 2 by omega)] at h2
      rw [pk_cl f, pk_cl (f + 1), show xu I 1 1 (nI f) 2 f = nI (m f) from (hm1 f (by omega)).1, x_i8 (m f) (hbb f (by omega))]
      refine (pk_eq (u - f) 2 (fun c3 => ⟨pk_in (f + 1) 153 (by omega), rfl, rfl, s1.put rfl, ?_⟩) (fun c3 => ⟨rfl, rfl, s1.put rfl, ?_⟩)).symm
      · rw [show xu I 1 1 (nI f) 2 (f + 1) = nI (m (f + 1)) from (hm1 (f + 1) (by omega)).1, x_or8 _ (hbb (f + 1) (by omega))]
        exact xOr.s (q := (256 * nb (m f) + nI (m (f + 1)), u)) (by simp only [ig, h2, if_neg (show ¬ f = u by omega), if_neg (show ¬ u - f = 1 by omega)]) rfl rfl
      · exact xOr.s (q := (nb (m f), u)) (by simp only [ig, h2, if_neg (show ¬ f = u by omega), if_pos (show u - f = 1 by omega)]) rfl rfl
    · simp only [if_neg (show ¬ u - f ≤ 2 by omega)] at h2
      simp only [ig, h2]
def QB (m : Nat → Nat) (w p e : Nat) (I : xIt) (J : xJt) (P : xPt) : Int32 → xIt → xJt → xPt → Prop := fun r I' J' P' => J = J' ∧ P = P' ∧ xsm (dO 1 [1] []) I I' ∧ xOr (sg m w p e) r (-1) (fun q => nI q.1) (fun q => I' 1 1 = nI q.2)
set_option maxRecDepth 20000 in
theorem c_RQ_readByte {l : Launch} {V : xV} {I : xIt} {J : xJt} {P : xPt} {m : Nat → Nat} {w p e : Nat} (hL : xL P) (hm : xMs I 2 m e) (he : e ≤ 153) (hp : p ≤ e) (hw : w < 256) (hat : I 1 1 = nI p) : xMet l V y_RQ_readByte 2 0 0 [xq (some 1), xi (nI w), xi (nI e)] xS0 I J P (xPi (QB m w p e I J P)) := by
  have hbb : ∀ j, j < e → m j < 256 := fun j hj => (hm j hj).2
  have h2 := tk_255 (m := m) (w := w) (most := 1) (p := p) (e := e) hbb
  refine e_RQ_readByte (b_RQ_readByte_0 hL ⟨QE m w p e I J P, c_RQ_enter hL hm he hp hw hat, ?_⟩)
  rintro r I1 _ _ ⟨rfl, rfl, o⟩
  refine x_on o (fun q hq => by have := tk_bd (f := q.1) (u := q.2) hq; omega) (fun hn _ hI => ⟨rfl, rfl, by rw [hI]; exact xsm.rfl, xOr.n (by rw [hn] at h2; simp only [sg, h2]) rfl⟩) (fun q hq hr hI => ?_)
  subst hI
  obtain ⟨f, u⟩ := q
  have hr : r = nI u := hr
  subst hr
  have b := tk_bd hq
  rw [hq] at h2
  have s1 : xsm (dO 1 [1] []) I (xu I 1 1 (nI f)) := xsm.rfl.put rfl
  have hm1 := hm.sm s1 (fun j => rfl)
  rw [show xu I 1 1 (nI f) 1 1 = nI f from rfl, pk_sub (show f ≤ u by omega)]
  refine pk_eq (u - f) 1 (fun c => ?_) (fun c => ⟨rfl, rfl, s1, xOr.n ?_ rfl⟩)
  · rw [show nI u - 1 = nI (u - 1) from pk_sub (b := 1) (by omega), show u - 1 = f by omega]
    refine ⟨pk_in f 153 (by omega), rfl, rfl, s1.put rfl, ?_⟩
    rw [pk_cl f]
    simp only [if_pos (show u - f ≤ 1 by omega)] at h2
    exact xOr.s (q := (m f, u)) (by simp only [sg, h2, if_neg (show ¬ f = u by omega)]) (hm1 f (by omega)).1 rfl
  · by_cases hu : f = u
    · simp only [if_pos (show u - f ≤ 1 by omega)] at h2
      simp only [sg, h2, if_pos hu]
    · simp only [if_neg (show ¬ u - f ≤ 1 by omega)] at h2
      simp only [sg, h2]
/-- the texts that were taken so far -/
def xTx (I : xIt) (T : List (Nat × Nat)) : Prop := I 1 9 = nI T.length ∧ ∀ (i : Nat) (q : Nat × Nat), T[i]? = some q → I 3 i = nI q.1 ∧ I 4 i = nI q.2
theorem xTx.sm {I I' : xIt} {D : Nat → Nat → Bool} {T : List (Nat × Nat)} (h : xTx I T) (hs : xsm D I I') (h9 : D 1 9 = false) (h3 : ∀ j, D 3 j = false) (h4 : ∀ j, D 4 j = false) : xTx I' T := ⟨(hs 1 9 h9).trans h.1, fun i q hi => ⟨(hs 3 i (h3 i)).trans (h.2 i q hi).1, (hs 4 i (h4 i)).trans (h.2 i q hi).2⟩⟩
set_option maxRecDepth 20000 in
theorem c_RQ_takeText {l : Launch} {V : xV} {I : xIt} {J : xJt} {P : xPt} {p u : Nat} {T : List (Nat × Nat)} (hL : xL P) (hp : p ≤ u) (hu : u ≤ 153) (hT : xTx I T) (hl : T.length < 75) (hat : I 1 1 = nI p) : xMet l V y_RQ_takeText 1 0 0 [xq (some 1), xi (nI u)] xS0 I J P (xPi (fun r I' J' P' => J = J' ∧ P = P' ∧ xsm (dO 1 [1, 9] [3, 4]) I I' ∧ if u - p ≤ 30 then r = 1 ∧ I' 1 1 = nI u ∧ xTx I' (T ++ [(p, u)]) else r = 0)) := by
  refine e_RQ_takeText (b_RQ_takeText_0 hL ?_)
  rw [hat, hT.1, pk_sub hp, nI_1, pk_cl T.length]
  refine pk_lt 30 (u - p) (fun c => ⟨rfl, rfl, xsm.rfl, by rw [if_neg (by omega)]⟩) (fun c => (pk_eq T.length 75 (fun z => by omega) (fun z => ⟨pk_in T.length 75 hl, pk_in T.length 75 hl, rfl, rfl, (((xsm.rfl.put rfl).put rfl).put rfl).put rfl, ?_⟩)).symm)
  rw [if_pos (by omega)]
  refine ⟨rfl, rfl, ?_, ?_⟩
  · show nI (T.length + 1) = _
    simp
  · intro i q hi
    by_cases hil : i < T.length
    · rw [List.getElem?_append_left hil] at hi
      have h7 := hT.2 i q hi
      refine ⟨?_, ?_⟩
      · rw [xu_other (by omega), xu_other (by omega), xu_other (by omega), xu_other (by omega)]; exact h7.1
      · rw [xu_other (by omega), xu_other (by omega), xu_other (by omega), xu_other (by omega)]; exact h7.2
    · rw [List.getElem?_append_right (by omega)] at hi
      have h8 : i = T.length := by
        have := (List.getElem?_eq_some_iff.mp hi).1
        simp at this
        omega
      subst h8
      simp at hi
      subst hi
      refine ⟨?_, ?_⟩
      · rw [xu_other (by omega), xu_other (by omega), xu_other (by omega), xu_at]
      · rw [xu_other (by omega), xu_other (by omega), xu_at]
def QX (m : Nat → Nat) (w p e : Nat) (T : List (Nat × Nat)) (I : xIt) (J : xJt) (P : xPt) : Int32 → xIt → xJt → xPt → Prop := fun r I' J' P' => J = J' ∧ P = P' ∧ xsm (dO 1 [1, 9] [3, 4]) I I' ∧ xOp (tk m w 30 p e) r (fun q => I' 1 1 = nI q.2 ∧ xTx I' (T ++ [q]))
set_option maxRecDepth 20000 in
theorem c_RQ_readText {l : Launch} {V : xV} {I : xIt} {J : xJt} {P : xPt} {m : Nat → Nat} {w p e : Nat} {T : List (Nat × Nat)} (hL : xL P) (hm : xMs I 2 m e) (he : e ≤ 153) (hp : p ≤ e) (hw : w < 256) (hT : xTx I T) (hl : T.length < 75) (hat : I 1 1 = nI p) : xMet l V y_RQ_readText 2 0 0 [xq (some 1), xi (nI w), xi (nI e)] xS0 I J P (xPi (QX m w p e T I J P)) := by
  have hbb : ∀ j, j < e → m j < 256 := fun j hj => (hm j hj).2
  have h2 := tk_255 (m := m) (w := w) (most := 30) (p := p) (e := e) hbb
  refine e_RQ_readText (b_RQ_readText_0 hL ⟨QE m w p e I J P, c_RQ_enter hL hm he hp hw hat, ?_⟩)
  rintro r I1 _ _ ⟨rfl, rfl, o⟩
  refine x_on o (fun q hq => by have := tk_bd (f := q.1) (u := q.2) hq; omega) (fun hn _ hI => ⟨rfl, rfl, by rw [hI]; exact xsm.rfl, xOp.n (by rw [hn] at h2; exact h2) rfl⟩) (fun q hq hr hI => ?_)
  subst hI
  obtain ⟨f, u⟩ := q
  have hr : r = nI u := hr
  subst hr
  have b := tk_bd hq
  rw [hq] at h2
  have s1 : xsm (dO 1 [1, 9] [3, 4]) I (xu I 1 1 (nI f)) := xsm.rfl.put rfl
  refine ⟨_, c_RQ_takeText (p := f) (T := T) hL (by omega) (by omega) ⟨hT.1, hT.2⟩ hl rfl, ?_⟩
  rintro r2 I2 _ _ ⟨rfl, rfl, s2, h⟩
  by_cases hc : u - f ≤ 30
  · rw [if_pos hc] at h
    obtain ⟨rfl, h3, h4⟩ := h
    simp only [if_pos hc] at h2
    exact ⟨fun z => absurd z (by decide), fun _ => ⟨rfl, rfl, s1.trans s2, xOp.s (q := (f, u)) h2 rfl ⟨h3, h4⟩⟩⟩
  · rw [if_neg hc] at h
    subst h
    simp only [if_neg hc] at h2
    exact ⟨fun _ => ⟨rfl, rfl, s1.trans s2, xOp.n h2 rfl⟩, fun z => absurd rfl z⟩

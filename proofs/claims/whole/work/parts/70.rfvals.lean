/-! the reference: texts, forms -/
def xBy (I : xIt) (a p : Nat) (L : List Nat) : Prop := ∀ j b, L[j]? = some b → I a (p + j) = nI b
theorem xBy.far {I I' : xIt} {a p : Nat} {L : List Nat} (h : xBy I a p L) (hI : ∀ j, p ≤ j → j < p + L.length → I' a j = I a j) : xBy I' a p L := fun j b hj => (hI _ (by omega) (by have := (List.getElem?_eq_some_iff.mp hj).1; omega)).trans (h j b hj)
/-- the text that is held, and the form k -/
def xGv (I : xIt) (g : List Nat) : Prop := I 250 21 = nI g.length ∧ xBy I 254 0 g
def xFm (I : xIt) (k : Nat) (p : List Nat) : Prop := xBy I 255 (8 * k) p
/-- a text's form, as the reference judges it -/
def fo (t : Nat) (g : List Nat) : Option (List Nat) := if 1 ≤ g.length ∧ g.length ≤ 6 then po t g else none
theorem val_fo (m : Nat → Nat) (t : Nat) (q : Nat × Nat) : val m t q = (fo t (sub m q.1 q.2)).map (fun p => (sub m q.1 q.2, p)) := by
  unfold val vo fo
  rw [sub_len]
  by_cases h : q.1 < q.2 ∧ q.2 - q.1 ≤ 6
  · rw [if_pos h, if_pos (by omega)]
    rw [Option.bind_some]
  · rw [if_neg h, if_neg (by omega)]
    rfl
theorem fo_ok {t : Nat} {g p : List Nat} (hb : by8 g) (h : fo t g = some p) : p.length ≤ 6 ∧ by8 p ∧ g.length ≤ 6 ∧ po t g = some p := by
  unfold fo at h
  by_cases hc : 1 ≤ g.length ∧ g.length ≤ 6
  · rw [if_pos hc] at h
    have := po_ok hc.2 hb h
    exact ⟨this.1, this.2, hc.2, h⟩
  · rw [if_neg hc] at h; cases h
def oln (o : Option (List Nat)) : Int32 := match o with
  | some p => nI p.length
  | none => -1
section XRV
variable {l : Launch} {V : xV} {I : xIt} {J : xJt} {P : xPt} {m : Nat → Nat} {e : Nat} {g : List Nat}
set_option maxRecDepth 20000 in
theorem c_RF_small {c : Nat} (hL : xL P) (h : c < 256) : xMet l V y_RF_small 1 0 0 [xi (nI c)] xS0 I J P (xPi (fun r I' J' P' => I = I' ∧ J = J' ∧ P = P' ∧ r = nI (low c))) := by
  refine e_RF_small (b_RF_small_0 hL ?_)
  rw [show (32 : Int32) = nI 32 from rfl, nI_add]
  refine pk_lt c 65 (fun z => ⟨rfl, rfl, rfl, by rw [low, if_neg (by omega)]⟩) (fun z => pk_lt 90 c (fun z2 => ⟨rfl, rfl, rfl, by rw [low, if_neg (by omega)]⟩) (fun z2 => ⟨rfl, rfl, rfl, by rw [low, if_pos (by omega)]⟩))
theorem ty_ex {c : Nat} : ty c = if low c = 111 then some 0 else if low c = 110 then some 1 else if low c = 100 then some 2 else if low c = 105 then some 3 else if low c = 115 then some 4 else none := by
  unfold ty tyk
  generalize low c = x
  by_cases h0 : x = 111
  · subst h0; rfl
  by_cases h1 : x = 110
  · subst h1; rfl
  by_cases h2 : x = 100
  · subst h2; rfl
  by_cases h3 : x = 105
  · subst h3; rfl
  by_cases h4 : x = 115
  · subst h4; rfl
  have e0 : (111 == x) = false := by simp; omega
  have e1 : (110 == x) = false := by simp; omega
  have e2 : (100 == x) = false := by simp; omega
  have e3 : (105 == x) = false := by simp; omega
  have e4 : (115 == x) = false := by simp; omega
  simp [List.findIdx?_cons, e0, e1, e2, e3, e4, h0, h1, h2, h3, h4]
set_option maxRecDepth 20000 in
theorem c_RF_typeAt {q : Nat × Nat} (hL : xL P) (hm : xMs I 251 m e) (he : e ≤ 160) (hq : q.1 ≤ q.2 ∧ q.2 ≤ e) : xMet l V y_RF_typeAt 2 0 0 [xq (some 250), xi (nI q.1), xi (nI q.2)] xS0 I J P (xPi (fun r I' J' P' => I = I' ∧ J = J' ∧ P = P' ∧ r = tyo (tyx m q))) := by
  have tail : ∀ (x : Nat), x < 300 → tyo (tyx m q) = tyo (if x = 111 then some 0 else if x = 110 then some 1 else if x = 100 then some 2 else if x = 105 then some 3 else if x = 115 then some 4 else none) → G_RF_typeAt l V (fun r I' J' P' => I = I' ∧ J = J' ∧ P = P' ∧ r = tyo (tyx m q)) 20 [(0, xq (some 250)), (1, xi (nI q.1)), (2, xi (nI q.2))] [xi (nI x)] I J P := by
    intro x hx ht
    refine b_RF_typeAt_20 hL ?_
    refine (pk_eq x 111 (fun z => ⟨rfl, rfl, rfl, by rw [ht, if_pos z]; rfl⟩) (fun z0 => (pk_eq x 110 (fun z => ⟨rfl, rfl, rfl, by rw [ht, if_neg z0, if_pos z]; rfl⟩) (fun z1 => (pk_eq x 100 (fun z => ⟨rfl, rfl, rfl, by rw [ht, if_neg z0, if_neg z1, if_pos z]; rfl⟩) (fun z2 => (pk_eq x 105 (fun z => ⟨rfl, rfl, rfl, by rw [ht, if_neg z0, if_neg z1, if_neg z2, if_pos z]; rfl⟩) (fun z3 => (pk_eq x 115 (fun z => ⟨rfl, rfl, rfl, by rw [ht, if_neg z0, if_neg z1, if_neg z2, if_neg z3, if_pos z]; rfl⟩) (fun z4 => ⟨rfl, rfl, rfl, by rw [ht, if_neg z0, if_neg z1, if_neg z2, if_neg z3, if_neg z4]; rfl⟩)).symm)).symm)).symm)).symm)).symm
  refine e_RF_typeAt (b_RF_typeAt_0 hL ?_)
  refine (pk_eq (q.2 - q.1) 1 (fun z => ⟨pk_in q.1 160 (by omega), ?_⟩) (fun z => tail 0 (by omega) (by rw [tyx, if_neg z]; rfl)) (pk_sub hq.1)).symm
  have hb := hm q.1 (by omega)
  rw [ncl q.1, hb.1]
  refine ⟨_, c_RF_small hL hb.2, ?_⟩
  rintro w I1 _ _ ⟨rfl, rfl, rfl, rfl⟩
  refine tail _ (by have := low_256 hb.2; omega) ?_
  rw [tyx, if_pos z, ty_ex]
set_option maxRecDepth 20000 in
theorem c_RF_load {s u : Nat} (hL : xL P) (hm : xMs I 251 m e) (he : e ≤ 160) (hs : s ≤ u ∧ u ≤ e) (h32 : u - s ≤ 32) : xMet l V y_RF_load 1 0 0 [xq (some 250), xi (nI s), xi (nI u)] xS0 I J P (xPv (fun I' J' P' => J = J' ∧ P = P' ∧ (∀ a j, ¬ (a = 250 ∧ j = 21) → a ≠ 254 → I' a j = I a j) ∧ xGv I' (sub m s u))) := by
  have loop : ∀ (k j : Nat) (I1 : xIt), j + k = u - s → (∀ a i, ¬ (a = 250 ∧ i = 21) → a ≠ 254 → I1 a i = I a i) → I1 250 21 = nI (u - s) → (∀ i, i < j → I1 254 i = nI (m (s + i))) → G_RF_load l V (fun I' J' P' => J = J' ∧ P = P' ∧ (∀ a j, ¬ (a = 250 ∧ j = 21) → a ≠ 254 → I' a j = I a j) ∧ xGv I' (sub m s u)) 9 [(0, xq (some 250)), (1, xi (nI s)), (2, xi (nI u)), (3, xi (nI j))] [] I1 J P := by
    intro k
    induction k with
    | zero =>
      intro j I1 hj hI h21 hd
      refine b_RF_load_9 hL (pk_le (u - s) j (fun _ => ⟨rfl, rfl, hI, h21.trans (by rw [sub_len]), fun i b hi => ?_⟩) (fun z => by omega) h21)
      have hil := (List.getElem?_eq_some_iff.mp hi).1
      rw [sub_len] at hil
      unfold sub at hi
      rw [List.getElem?_map, List.getElem?_range hil] at hi
      cases hi
      rw [Nat.zero_add]
      exact hd i (by omega)
    | succ k ih =>
      intro j I1 hj hI h21 hd
      refine b_RF_load_9 hL (pk_le (u - s) j (fun z => by omega) (fun _ => ?_) h21)
      rw [nI_add, nI_1, ncl j, ncl (s + j), hI 251 (s + j) (by omega) (by omega), (hm (s + j) (by omega)).1]
      refine ⟨pk_in (s + j) 160 (by omega), pk_in j 32 (by omega), ih (j + 1) _ (by omega) (fun a i h1 h2 => (xu_other (by omega)).trans (hI a i h1 h2)) ((xu_other (by omega)).trans h21) (fun i hi => ?_)⟩
      by_cases hij : i = j
      · subst hij; rw [xu_at]
      · rw [xu_other (by omega)]; exact hd i (by omega)
  refine e_RF_load (b_RF_load_0 hL ?_)
  rw [pk_sub hs.1]
  exact loop (u - s) 0 _ (by omega) (fun a i h1 h2 => xu_other h1) xu_at (fun i hi => by omega)
/-- nothing but the form k changed -/
def xSfo (k : Nat) (I I' : xIt) : Prop := ∀ a j, ¬ (a = 255 ∧ 8 * k ≤ j ∧ j < 8 * k + 8) → I' a j = I a j
theorem xSfo.rfl {k : Nat} {I : xIt} : xSfo k I I := fun _ _ _ => Eq.refl _
theorem xSfo.trans {k : Nat} {I I1 I2 : xIt} (h : xSfo k I I1) (h2 : xSfo k I1 I2) : xSfo k I I2 := fun a j h3 => (h2 a j h3).trans (h a j h3)
theorem xSfo.put {k i : Nat} {v : Int32} {I I1 : xIt} (h : xSfo k I I1) (hi : i < 8) : xSfo k I (xu I1 255 (8 * k + i) v) := fun a j h3 => (xu_other (by omega)).trans (h a j h3)
theorem xSfo.gv {k : Nat} {I1 : xIt} (h : xSfo k I I1) (hg : xGv I g) : xGv I1 g := ⟨(h 250 21 (by omega)).trans hg.1, hg.2.far (fun j _ _ => h 254 j (by omega))⟩
set_option maxRecDepth 20000 in
theorem c_RF_plainForm {k : Nat} (hL : xL P) (hg : xGv I g) (hl : g.length ≤ 6) (hb : by8 g) (hk : k < 5) : xMet l V y_RF_plainForm 2 0 0 [xq (some 250), xi (nI (8 * k))] xS0 I J P (xPi (fun r I' J' P' => J = J' ∧ P = P' ∧ xSfo k I I' ∧ r = oln (ptx g [] false) ∧ ∀ p, ptx g [] false = some p → xFm I' k p)) := by
  have loop : ∀ (n j : Nat) (p : List Nat) (w : Bool) (I1 : xIt), j + n = g.length → p.length + (if w then 1 else 0) ≤ j → xSfo k I I1 → xFm I1 k p → ptx g [] false = ptx (g.drop j) p w → G_RF_plainForm l V (fun r I' J' P' => J = J' ∧ P = P' ∧ xSfo k I I' ∧ r = oln (ptx g [] false) ∧ ∀ p, ptx g [] false = some p → xFm I' k p) 7 [(0, xq (some 250)), (1, xi (nI (8 * k))), (2, xi (nI p.length)), (3, xi (if w then 1 else 0)), (4, xi (nI j))] [] I1 J P := by
    intro n
    induction n with
    | zero =>
      intro j p w I1 hj hpw hs hf hx
      have h21 := (hs.gv hg).1
      have hpl : p.length ≤ j := by split at hpw <;> omega
      rw [List.drop_eq_nil_of_le (by omega), ptx] at hx
      refine b_RF_plainForm_7 hL (pk_le g.length j (fun _ => (pk_eq p.length 0 (fun z => ⟨rfl, rfl, hs, ?_, fun p' hp' => ?_⟩) (fun z => ⟨rfl, rfl, hs, ?_, fun p' hp' => ?_⟩)).symm) (fun z => by omega) h21)
      · rw [hx, if_pos (List.eq_nil_of_length_eq_zero z)]; rfl
      · rw [hx, if_pos (List.eq_nil_of_length_eq_zero z)] at hp'; cases hp'
      · rw [hx, if_neg (fun h => z (by rw [h]; rfl))]; rfl
      · rw [hx, if_neg (fun h => z (by rw [h]; rfl))] at hp'; cases hp'; exact hf
    | succ n ih =>
      intro j p w I1 hj hpw hs hf hx
      have hg1 := hs.gv hg
      have hjl : j < g.length := by omega
      have hgj := List.getElem?_eq_getElem hjl
      have hc := hg1.2 j _ hgj
      rw [Nat.zero_add] at hc
      have hb8 := hb g[j] (List.getElem_mem hjl)
      rw [List.drop_eq_getElem_cons hjl, ptx] at hx
      have hpl : p.length ≤ j := by split at hpw <;> omega
      refine b_RF_plainForm_7 hL (pk_le g.length j (fun z => by omega) (fun _ => ⟨pk_in j 32 (by omega), ?_⟩) hg1.1)
      rw [ncl j, hc, nI_1 j]
      refine pk_lt g[j] 32 (fun z => ⟨rfl, rfl, hs, ?_, fun p' hp' => ?_⟩) (fun z => pk_le g[j] 126 (fun z2 => (pk_eq g[j] 32 (fun z3 => ?_) (fun z3 => ?_)).symm) (fun z2 => ⟨rfl, rfl, hs, ?_, fun p' hp' => ?_⟩))
      · rw [hx, if_pos (Or.inl z)]; rfl
      · rw [hx, if_pos (Or.inl z)] at hp'; cases hp'
      · rw [if_neg (by omega), if_pos z3] at hx
        refine pk_le p.length 0 (fun z4 => ?_) (fun z4 => ?_)
        · have hp0 : p = [] := List.eq_nil_of_length_eq_zero (by omega)
          subst hp0
          exact ih (j + 1) [] false I1 (by omega) (by simp) hs hf hx
        · have hp0 : p.isEmpty = false := by cases p with
            | nil => simp at z4
            | cons a b => rfl
          rw [hp0] at hx
          exact ih (j + 1) p true I1 (by omega) (by simp; omega) hs hf hx
      · rw [if_neg (by omega), if_neg z3] at hx
        cases w with
        | false =>
          simp only [Bool.false_eq_true, if_false, List.append_nil] at hx
          refine ⟨fun _ => ⟨_, c_RF_small hL hb8, ?_⟩, fun z => absurd rfl z⟩
          rintro w I2 _ _ ⟨rfl, rfl, rfl, rfl⟩
          rw [nI_add, nI_1, ncl (8 * k + p.length)]
          refine ⟨pk_in (8 * k + p.length) 40 (by omega), ?_⟩
          have hf2 : xFm (xu I1 255 (8 * k + p.length) (nI (low g[j]))) k (p ++ [low g[j]]) := by
            intro i b hi
            by_cases hil : i < p.length
            · rw [List.getElem?_append_left hil] at hi
              rw [xu_other (by omega)]; exact hf i b hi
            · rw [List.getElem?_append_right (by omega)] at hi
              have h8 : i = p.length := by
                have := (List.getElem?_eq_some_iff.mp hi).1
                simp at this
                omega
              subst h8
              simp at hi
              subst hi
              exact xu_at
          have := ih (j + 1) (p ++ [low g[j]]) false _ (by omega) (by simp; omega) (hs.put (i := p.length) (v := nI (low g[j])) (by omega)) hf2 hx
          rw [List.length_append] at this
          exact this
        | true =>
          simp only [if_true] at hx hpw
          refine ⟨fun z => absurd z (by decide), fun _ => ⟨?_, ?_⟩⟩
          · rw [nI_add]; exact pk_in (8 * k + p.length) 40 (by omega)
          · rw [nI_add, nI_1, nI_add, nI_1, ncl (8 * k + p.length), ncl (8 * k + (p.length + 1))]
            refine ⟨_, c_RF_small hL hb8, ?_⟩
            rintro w I2 _ _ ⟨rfl, rfl, rfl, rfl⟩
            refine ⟨pk_in (8 * k + (p.length + 1)) 40 (by omega), ?_⟩
            have hf2 : xFm (xu (xu I1 255 (8 * k + p.length) 32) 255 (8 * k + (p.length + 1)) (nI (low g[j]))) k (p ++ [32] ++ [low g[j]]) := by
              intro i b hi
              by_cases hil : i < p.length
              · rw [List.append_assoc, List.getElem?_append_left hil] at hi
                rw [xu_other (by omega), xu_other (by omega)]; exact hf i b hi
              · rw [List.append_assoc, List.getElem?_append_right (by omega)] at hi
                have h8 : i - p.length = 0 ∨ i - p.length = 1 := by
                  have := (List.getElem?_eq_some_iff.mp hi).1
                  simp at this
                  omega
                rcases h8 with h8 | h8
                · rw [h8] at hi
                  simp at hi
                  subst hi
                  rw [xu_other (by omega), show 8 * k + i = 8 * k + p.length by omega, xu_at]
                  rfl
                · rw [h8] at hi
                  simp at hi
                  subst hi
                  rw [show 8 * k + i = 8 * k + (p.length + 1) by omega, xu_at]
            have := ih (j + 1) (p ++ [32] ++ [low g[j]]) false _ (by omega) (by simp; omega) ((hs.put (i := p.length) (v := 32) (by omega)).put (i := p.length + 1) (v := nI (low g[j])) (by omega)) hf2 hx
            rw [List.length_append, List.length_append] at this
            exact this
      · rw [hx, if_pos (Or.inr z2)]; rfl
      · rw [hx, if_pos (Or.inr z2)] at hp'; cases hp'
  exact e_RF_plainForm (b_RF_plainForm_0 hL (loop g.length 0 [] false I (by omega) (by simp) xSfo.rfl (fun i b hi => by simp at hi) (by simp)))
set_option maxRecDepth 20000 in
theorem c_RF_isNumber (hL : xL P) (hg : xGv I g) (hl : g.length ≤ 6) (hb : by8 g) (hne : g ≠ []) : xMet l V y_RF_isNumber 1 0 0 [xq (some 250)] xS0 I J P (xPi (fun r I' J' P' => I = I' ∧ J = J' ∧ P = P' ∧ r = if isn g = true then 1 else 0)) := by
  have h21 := hg.1
  have hl0 : 0 < g.length := by cases g with
    | nil => exact absurd rfl hne
    | cons a b => simp
  have hby : ∀ j, (h : j < g.length) → I 254 j = nI g[j] := fun j h => by
    have := hg.2 j _ (List.getElem?_eq_getElem h)
    rwa [Nat.zero_add] at this
  have hf1 : fst45 g ≤ 1 := by unfold fst45; split <;> omega
  have loop : ∀ (n j : Nat), j + n = g.length → fst45 g ≤ j → isn g = (decide (1 ≤ g.length - fst45 g) && (decide (g.length - fst45 g ≤ 4) && ((g.drop j).all (fun c => decide (48 ≤ c) && decide (c ≤ 57)) && (decide (g.length = 1) || !decide (g[fst45 g]? = some 48))))) → G_RF_isNumber l V (fun r I' J' P' => I = I' ∧ J = J' ∧ P = P' ∧ r = if isn g = true then 1 else 0) 26 [(0, xq (some 250)), (1, xi (nI (fst45 g))), (2, xi (nI (g.length - fst45 g))), (3, xi (nI j))] [] I J P := by
    intro n
    induction n with
    | zero =>
      intro j hj hfj hx
      rw [List.drop_eq_nil_of_le (by omega)] at hx
      refine b_RF_isNumber_26 hL (pk_le g.length j (fun _ => ?_) (fun z => by omega) h21)
      rw [h21]
      refine pk_lt (g.length - fst45 g) 1 (fun z => ⟨rfl, rfl, rfl, ?_⟩) (fun z => pk_lt 4 (g.length - fst45 g) (fun z2 => ⟨rfl, rfl, rfl, ?_⟩) (fun z2 => ⟨pk_in (fst45 g) 32 (by omega), ?_⟩))
      · rw [hx, decide_eq_false (by omega)]; rfl
      · rw [hx, decide_eq_true (by omega : 1 ≤ g.length - fst45 g), decide_eq_false (by omega : ¬ g.length - fst45 g ≤ 4)]; rfl
      · have hfl : fst45 g < g.length := by omega
        rw [ncl (fst45 g), hby _ hfl]
        have h256 := hb g[fst45 g] (List.getElem_mem hfl)
        have hgf : g[fst45 g]? = some g[fst45 g] := List.getElem?_eq_getElem hfl
        rw [decide_eq_true (by omega : 1 ≤ g.length - fst45 g), decide_eq_true (by omega : g.length - fst45 g ≤ 4), hgf] at hx
        refine (pk_eq g[fst45 g] 48 (fun z3 => (pk_eq g.length 1 (fun z4 => ⟨rfl, rfl, rfl, ?_⟩) (fun z4 => ⟨rfl, rfl, rfl, ?_⟩)).symm) (fun z3 => ⟨rfl, rfl, rfl, ?_⟩)).symm
        · rw [hx]; simp [z4]
        · rw [hx]; simp [z3, z4]
        · rw [hx]; simp [z3]
    | succ n ih =>
      intro j hj hfj hx
      have hjl : j < g.length := by omega
      have h256 := hb g[j] (List.getElem_mem hjl)
      rw [List.drop_eq_getElem_cons hjl, List.all_cons] at hx
      refine b_RF_isNumber_26 hL (pk_le g.length j (fun z => by omega) (fun _ => ⟨pk_in j 32 (by omega), ?_⟩) h21)
      rw [ncl j, hby j hjl, nI_1]
      refine pk_lt g[j] 48 (fun z => ⟨rfl, rfl, rfl, ?_⟩) (fun z => ⟨pk_in j 32 (by omega), pk_le g[j] 57 (fun z2 => ih (j + 1) (by omega) (by omega) ?_) (fun z2 => ⟨rfl, rfl, rfl, ?_⟩)⟩)
      · rw [hx, decide_eq_false (by omega : ¬ 48 ≤ g[j])]; simp
      · rw [hx, decide_eq_true (by omega : 48 ≤ g[j]), decide_eq_true z2]; simp
      · rw [hx, decide_eq_false (by omega : ¬ g[j] ≤ 57)]; simp
  have h0 := hby 0 hl0
  have h256 := hb g[0] (List.getElem_mem hl0)
  have hg0 : g[0]? = some g[0] := List.getElem?_eq_getElem hl0
  refine e_RF_isNumber (b_RF_isNumber_0 hL ?_)
  rw [h0, h21]
  refine (pk_eq g[0] 45 (fun z => ?_) (fun z => ?_)).symm
  · have hf : fst45 g = 1 := by unfold fst45; rw [hg0, z]; rfl
    have := loop (g.length - 1) 1 (by omega) (by omega) (by unfold isn; rw [hf])
    rw [hf, ← pk_sub (show 1 ≤ g.length by omega)] at this
    exact this
  · have hf : fst45 g = 0 := by unfold fst45; rw [hg0, if_neg (fun h => z (Option.some.inj h))]
    have := loop g.length 0 (by omega) (by omega) (by unfold isn; rw [hf])
    rw [hf, ← pk_sub (show 0 ≤ g.length by omega)] at this
    exact this
end XRV

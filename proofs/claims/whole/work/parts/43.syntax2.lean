/-! letters, numbers, plain forms -/
def fst45 (L : List Nat) : Nat := if L[0]? = some 45 then 1 else 0
/-- has the value the syntax of a number -/
def isn (L : List Nat) : Bool := decide (1 ≤ L.length - fst45 L) && (decide (L.length - fst45 L ≤ 4) && ((L.drop (fst45 L)).all (fun c => decide (48 ≤ c) && decide (c ≤ 57)) && (decide (L.length = 1) || !decide (L[fst45 L]? = some 48))))
set_option maxRecDepth 20000 in
theorem c_SX_isNumber {l : Launch} {V : xV} {I : xIt} {J : xJt} {P : xPt} {L : List Nat} (hL : xL P) (hl : L.length ≤ 6) (hb : by8 L) (hne : L ≠ []) : xMet l V y_SX_isNumber 2 0 0 [xj (pkd L)] xS0 I J P (xPi (fun r I' J' P' => I = I' ∧ J = J' ∧ P = P' ∧ r = if isn L = true then 1 else 0)) := by
  have hlen : 0 < L.length := List.length_pos_iff.mpr hne
  obtain ⟨c0, hc0⟩ : ∃ c, L[0]? = some c := ⟨_, List.getElem?_eq_getElem hlen⟩
  have hc06 : c0 < 256 := hb c0 (List.mem_of_getElem? hc0)
  have hf1 : fst45 L ≤ 1 := by unfold fst45; split <;> omega
  have loop : ∀ (k j : Nat), j + k = L.length → fst45 L ≤ j → 1 ≤ L.length - fst45 L → L.length - fst45 L ≤ 4 → (isn L = ((L.drop j).all (fun c => decide (48 ≤ c) && decide (c ≤ 57)) && (decide (L.length = 1) || !decide (L[fst45 L]? = some 48)))) → G_SX_isNumber l V (fun r I' J' P' => I = I' ∧ J = J' ∧ P = P' ∧ r = if isn L = true then 1 else 0) 40 [(0, xj (pkd L)), (2, xi (nI L.length)), (3, xi (nI (fst45 L))), (4, xi (nI j))] [] I J P := by
    intro k
    induction k with
    | zero =>
      intro j hj hfj h1 h4 hx
      have hd : L.drop j = [] := List.drop_eq_nil_of_le (by omega)
      rw [hd] at hx
      refine b_SX_isNumber_40 hL (pk_le L.length j (fun _ => ?_) (fun z => by omega))
      refine pk_eq L.length 1 (fun z => ⟨rfl, rfl, rfl, by rw [hx]; simp [z]⟩) (fun z => ?_)
      obtain ⟨cf, hcf⟩ : ∃ c, L[fst45 L]? = some c := ⟨_, List.getElem?_eq_getElem (show fst45 L < L.length by omega)⟩
      have hcf6 : cf < 256 := hb cf (List.mem_of_getElem? hcf)
      refine ⟨_, c_PK_byteAt hL hl hb hcf, ?_⟩
      rintro w I1 _ _ ⟨rfl, rfl, rfl, rfl⟩
      exact pk_eq cf 48 (fun z2 => ⟨rfl, rfl, rfl, by rw [hx, hcf]; simp [z, z2]⟩) (fun z2 => ⟨rfl, rfl, rfl, by rw [hx, hcf]; simp [z2]⟩)
    | succ k ih =>
      intro j hj hfj h1 h4 hx
      have hjl : j < L.length := by omega
      obtain ⟨c, hc⟩ : ∃ c, L[j]? = some c := ⟨_, List.getElem?_eq_getElem hjl⟩
      have hc6 : c < 256 := hb c (List.mem_of_getElem? hc)
      have hc' : L[j] = c := Option.some.inj ((List.getElem?_eq_getElem hjl).symm.trans hc)
      rw [List.drop_eq_getElem_cons hjl, hc', List.all_cons] at hx
      refine b_SX_isNumber_40 hL (pk_le L.length j (fun z => by omega) (fun _ => ⟨_, c_PK_byteAt hL hl hb hc, ?_⟩))
      rintro w I1 _ _ ⟨rfl, rfl, rfl, rfl⟩
      rw [nI_1]
      refine pk_lt c 48 (fun z => ⟨rfl, rfl, rfl, by rw [hx]; simp [show ¬ 48 ≤ c by omega]⟩) (fun z => pk_le c 57 (fun z2 => ih (j + 1) (by omega) (by omega) h1 h4 (by rw [hx]; simp [z, z2])) (fun z2 => ⟨rfl, rfl, rfl, by rw [hx]; simp [show ¬ c ≤ 57 by omega]⟩))
  have mid : G_SX_isNumber l V (fun r I' J' P' => I = I' ∧ J = J' ∧ P = P' ∧ r = if isn L = true then 1 else 0) 20 [(0, xj (pkd L)), (2, xi (nI L.length))] [xi (nI (fst45 L))] I J P := by
    refine b_SX_isNumber_20 hL ?_
    rw [pk_sub (show fst45 L ≤ L.length by omega)]
    refine pk_lt (L.length - fst45 L) 1 (fun z => ⟨rfl, rfl, rfl, by simp [isn, show ¬ 1 ≤ L.length - fst45 L by omega]⟩) (fun z => pk_le (L.length - fst45 L) 4 (fun z2 => ?_) (fun z2 => ⟨rfl, rfl, rfl, by simp [isn, show ¬ L.length - fst45 L ≤ 4 by omega]⟩))
    exact loop (L.length - fst45 L) (fst45 L) (by omega) (Nat.le_refl _) z z2 (by simp [isn, z, z2])
  refine e_SX_isNumber (b_SX_isNumber_0 hL ⟨_, c_PK_sizeOf hL hl hb, ?_⟩)
  rintro w I1 _ _ ⟨rfl, rfl, rfl, rfl⟩
  refine ⟨_, c_PK_byteAt (j := 0) hL hl hb hc0, ?_⟩
  rintro w I1 _ _ ⟨rfl, rfl, rfl, rfl⟩
  refine (pk_eq c0 45 (fun z => ?_) (fun z => ?_)).symm
  · have hf : fst45 L = 1 := by simp [fst45, hc0, z]
    rw [hf] at mid
    exact mid
  · have hf : fst45 L = 0 := by simp [fst45, hc0, z]
    rw [hf] at mid
    exact mid
def ltr (L : List Nat) : Option (List Nat) := match L with
  | [c] => if 97 ≤ low c ∧ low c ≤ 122 then some [low c] else none
  | _ => none
set_option maxRecDepth 20000 in
theorem c_SX_plainLetter {l : Launch} {V : xV} {I : xIt} {J : xJt} {P : xPt} {L : List Nat} (hL : xL P) (hl : L.length ≤ 6) (hb : by8 L) (hne : L ≠ []) : xMet l V y_SX_plainLetter 2 0 0 [xj (pkd L)] xS0 I J P (xPl (fun r I' J' P' => I = I' ∧ J = J' ∧ P = P' ∧ r = pko (ltr L))) := by
  have hlen : 0 < L.length := List.length_pos_iff.mpr hne
  obtain ⟨c0, hc0⟩ : ∃ c, L[0]? = some c := ⟨_, List.getElem?_eq_getElem hlen⟩
  have hc06 : c0 < 256 := hb c0 (List.mem_of_getElem? hc0)
  have hlow := low_256 hc06
  refine e_SX_plainLetter (b_SX_plainLetter_0 hL ⟨_, c_PK_byteAt (j := 0) hL hl hb hc0, ?_⟩)
  rintro w I1 _ _ ⟨rfl, rfl, rfl, rfl⟩
  refine ⟨_, c_SX_smallLetter hL hc06, ?_⟩
  rintro w I1 _ _ ⟨rfl, rfl, rfl, rfl⟩
  refine ⟨_, c_PK_sizeOf hL hl hb, ?_⟩
  rintro w I1 _ _ ⟨rfl, rfl, rfl, rfl⟩
  by_cases h1 : L.length = 1
  · obtain ⟨c, rfl⟩ := List.length_eq_one_iff.mp h1
    simp at hc0
    subst hc0
    refine ⟨fun z => absurd rfl z, fun _ => ?_⟩
    refine pk_lt (low c) 97 (fun z => ⟨rfl, rfl, rfl, by simp [ltr, show ¬ 97 ≤ low c by omega, pko]⟩) (fun z => pk_le (low c) 122 (fun z2 => ⟨_, c_PK_append (L := []) (b := low c) hL (by decide) (fun b hb => by cases hb) hlow, ?_⟩) (fun z2 => ⟨rfl, rfl, rfl, by simp [ltr, show ¬ low c ≤ 122 by omega, pko]⟩))
    rintro w I1 _ _ ⟨rfl, rfl, rfl, rfl⟩
    exact ⟨rfl, rfl, rfl, by simp [ltr, z, z2, pko]⟩
  · refine (pk_eq L.length 1 (fun z => absurd z h1) (fun z => ⟨rfl, rfl, rfl, ?_⟩)).symm
    cases L with
    | nil => exact absurd rfl hne
    | cons a t => cases t with
      | nil => exact absurd rfl h1
      | cons b u => rfl
/-- the plain form of a value of type t -/
def po (t : Nat) (L : List Nat) : Option (List Nat) := if L = [] then none else match t with
  | 0 => ltr L
  | 1 => ptx L [] false
  | 2 => ptx L [] false
  | 3 => if isn L = true then some L else none
  | 4 => some L
  | _ => none
def tyo (o : Option Nat) : Int32 := match o with
  | some t => nI t
  | none => -1
set_option maxRecDepth 20000 in
theorem c_SX_plainOf {l : Launch} {V : xV} {I : xIt} {J : xJt} {P : xPt} {L : List Nat} {t : Nat} (hL : xL P) (hl : L.length ≤ 6) (hb : by8 L) (ht : t < 5) : xMet l V y_SX_plainOf 3 0 0 [xi (nI t), xj (pkd L)] xS0 I J P (xPl (fun r I' J' P' => I = I' ∧ J = J' ∧ P = P' ∧ r = pko (po t L))) := by
  refine e_SX_plainOf (b_SX_plainOf_0 hL ?_)
  rw [lg_cmp_eq, lg_cmp_eq]
  refine ⟨fun z => absurd z (pkd_m1 hl hb), fun _ => ?_⟩
  by_cases hne : L = []
  · subst hne
    exact ⟨fun z => absurd pkd_0 z, fun _ => ⟨rfl, rfl, rfl, rfl⟩⟩
  refine ⟨fun _ => ?_, fun z => absurd z (pkd_ne hl hb hne)⟩
  have cv : ∀ k, k < 256 → nI t = nI k → t = k := fun k hk h => (nI_eq (by omega) (by omega)).mp h
  refine ⟨fun c => ?_, fun c => ?_, fun c => ?_, fun c => ?_, fun c => ?_, fun c1 c2 c3 c4 c5 => ?_⟩
  · have h := cv 0 (by omega) c
    subst h
    refine ⟨_, c_SX_plainLetter hL hl hb hne, ?_⟩
    rintro w I1 _ _ ⟨rfl, rfl, rfl, rfl⟩
    exact ⟨rfl, rfl, rfl, by simp [po, hne]⟩
  · have h := cv 1 (by omega) c
    subst h
    refine ⟨_, c_SX_plainText hL hl hb, ?_⟩
    rintro w I1 _ _ ⟨rfl, rfl, rfl, rfl⟩
    exact ⟨rfl, rfl, rfl, by simp [po, hne]⟩
  · have h := cv 2 (by omega) c
    subst h
    refine ⟨_, c_SX_plainText hL hl hb, ?_⟩
    rintro w I1 _ _ ⟨rfl, rfl, rfl, rfl⟩
    exact ⟨rfl, rfl, rfl, by simp [po, hne]⟩
  · have h := cv 3 (by omega) c
    subst h
    refine ⟨_, c_SX_isNumber hL hl hb hne, ?_⟩
    rintro w I1 _ _ ⟨rfl, rfl, rfl, rfl⟩
    by_cases hi : isn L = true
    · rw [if_pos hi]
      exact ⟨fun z => absurd z (by decide), fun _ => ⟨rfl, rfl, rfl, by simp [po, hne, hi, pko]⟩⟩
    · rw [if_neg hi]
      exact ⟨fun _ => ⟨rfl, rfl, rfl, by simp [po, hne, hi, pko]⟩, fun z => absurd rfl z⟩
  · have h := cv 4 (by omega) c
    subst h
    exact ⟨rfl, rfl, rfl, by simp [po, hne, pko]⟩
  · exfalso
    have n1 : ¬ t = 0 := fun z => c1 (by rw [z]; rfl)
    have n2 : ¬ t = 1 := fun z => c2 (by rw [z]; rfl)
    have n3 : ¬ t = 2 := fun z => c3 (by rw [z]; rfl)
    have n4 : ¬ t = 3 := fun z => c4 (by rw [z]; rfl)
    have n5 : ¬ t = 4 := fun z => c5 (by rw [z]; rfl)
    omega
set_option maxRecDepth 20000 in
theorem c_SX_plainOf_no {l : Launch} {V : xV} {I : xIt} {J : xJt} {P : xPt} {t : Int32} (hL : xL P) : xMet l V y_SX_plainOf 3 0 0 [xi t, xj (-1)] xS0 I J P (xPl (fun r I' J' P' => I = I' ∧ J = J' ∧ P = P' ∧ r = -1)) := by
  refine e_SX_plainOf (b_SX_plainOf_0 hL ?_)
  rw [lg_cmp_eq]
  exact ⟨fun _ => ⟨rfl, rfl, rfl, rfl⟩, fun z => absurd rfl z⟩

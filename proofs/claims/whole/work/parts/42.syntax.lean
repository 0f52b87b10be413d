/-! types, syntax and equality of values, as the class has them -/
def low (c : Nat) : Nat := if 65 ≤ c ∧ c ≤ 90 then c + 32 else c
theorem low_256 {c : Nat} (h : c < 256) : low c < 256 := by unfold low; split <;> omega
set_option maxRecDepth 20000 in
theorem c_SX_smallLetter {l : Launch} {V : xV} {I : xIt} {J : xJt} {P : xPt} {c : Nat} (hL : xL P) (h : c < 256) : xMet l V y_SX_smallLetter 1 0 0 [xi (nI c)] xS0 I J P (xPi (fun r I' J' P' => I = I' ∧ J = J' ∧ P = P' ∧ r = nI (low c))) := by
  refine e_SX_smallLetter (b_SX_smallLetter_0 hL ?_)
  refine pk_lt c 65 (fun z => ⟨rfl, rfl, rfl, by unfold low; rw [if_neg (by omega)]⟩) (fun z => pk_lt 90 c (fun z2 => ⟨rfl, rfl, rfl, by unfold low; rw [if_neg (by omega)]⟩) (fun z2 => ⟨rfl, rfl, rfl, ?_⟩))
  unfold low
  rw [if_pos (by omega), show nI c + 97 = nI (c + 97) from nI_add c 97, show nI (c + 97) - 65 = nI (c + 97 - 65) from pk_sub (b := 65) (by omega), show c + 97 - 65 = c + 32 by omega]
def tyk : List Nat := [111, 110, 100, 105, 115]
/-- the type that a letter names -/
def ty (c : Nat) : Option Nat := tyk.findIdx? (fun x => x == low c)
theorem xs0_at : ∀ k, k < 5 → xs0 k = nI (tyk.getD k 0) := by decide +kernel
set_option maxRecDepth 20000 in
theorem c_SX_typeOf {l : Launch} {V : xV} {I : xIt} {J : xJt} {P : xPt} {c : Nat} (hL : xL P) (h : c < 256) : xMet l V y_SX_typeOf 2 0 0 [xi (nI c)] xS0 I J P (xPi (fun r I' J' P' => I = I' ∧ J = J' ∧ P = P' ∧ r = match ty c with | some t => nI t | none => -1)) := by
  have hlow := low_256 h
  refine e_SX_typeOf (b_SX_typeOf_0 hL ⟨_, c_SX_smallLetter hL h, ?_⟩)
  rintro z I1 _ _ ⟨rfl, rfl, rfl, rfl⟩
  have loop : ∀ (k j : Nat), j + k = 5 → (∀ i, i < j → ¬ tyk.getD i 0 = low c) → G_SX_typeOf l V (fun r I' J' P' => I = I' ∧ J = J' ∧ P = P' ∧ r = match ty c with | some t => nI t | none => -1) 7 [(0, xi (nI c)), (1, xi (nI (low c))), (2, xi (nI j))] [] I J P := by
    intro k
    induction k with
    | zero =>
      intro j hj hn
      refine b_SX_typeOf_7 hL (pk_le 5 j (fun _ => ⟨rfl, rfl, rfl, ?_⟩) (fun z => by omega))
      have h0 := hn 0 (by omega)
      have h1 := hn 1 (by omega)
      have h2 := hn 2 (by omega)
      have h3 := hn 3 (by omega)
      have h4 := hn 4 (by omega)
      simp [tyk] at h0 h1 h2 h3 h4
      simp [ty, tyk, List.findIdx?_cons, h0, h1, h2, h3, h4]
    | succ k ih =>
      intro j hj hn
      refine b_SX_typeOf_7 hL (pk_le 5 j (fun z => by omega) (fun _ => ⟨pk_in j 5 (by omega), ?_⟩))
      rw [pk_cl j, xs0_at j (by omega), nI_1]
      have h6 : tyk.getD j 0 < 256 := by
        have : ∀ i, i < 5 → tyk.getD i 0 < 256 := by decide
        exact this j (by omega)
      have hA : tyk.getD j 0 = low c → ty c = some j := by
        intro z
        have hc : j = 0 ∨ j = 1 ∨ j = 2 ∨ j = 3 ∨ j = 4 := by omega
        rcases hc with rfl | rfl | rfl | rfl | rfl
        · have z : 111 = low c := z
          simp [ty, tyk, List.findIdx?_cons, ← z]
        · have z : 110 = low c := z
          simp [ty, tyk, List.findIdx?_cons, ← z]
        · have z : 100 = low c := z
          simp [ty, tyk, List.findIdx?_cons, ← z]
        · have z : 105 = low c := z
          simp [ty, tyk, List.findIdx?_cons, ← z]
        · have z : 115 = low c := z
          simp [ty, tyk, List.findIdx?_cons, ← z]
      exact (pk_eq (tyk.getD j 0) (low c) (fun z => ⟨rfl, rfl, rfl, by rw [hA z]⟩) (fun z => ih (j + 1) (by omega) (fun i hi => by
        by_cases hij : i = j
        · rw [hij]; exact z
        · exact hn i (by omega)))).symm
  exact loop 5 0 rfl (fun i hi => by omega)
/-- the form of a text: small letters, one space between others, none at the ends -/
def ptx : List Nat → List Nat → Bool → Option (List Nat)
  | [], p, _ => if p = [] then none else some p
  | c :: t, p, w => if c < 32 ∨ 126 < c then none else if c = 32 then ptx t p (!p.isEmpty) else ptx t (p ++ (if w then [32] else []) ++ [low c]) false
theorem by8_app {l k : List Nat} (h : by8 l) (h2 : by8 k) : by8 (l ++ k) := fun b hb => (List.mem_append.mp hb).elim (h b) (h2 b)
theorem pkd_0 : pkd [] = 0 := rfl
theorem pkd_ne {l : List Nat} (hl : l.length ≤ 6) (hb : by8 l) (h : l ≠ []) : pkd l ≠ 0 := fun z => h (pkd_inj hl hb (by decide) (fun b hb => by cases hb) (z.trans pkd_0.symm))
theorem pkd_m1 {l : List Nat} (hl : l.length ≤ 6) (hb : by8 l) : pkd l ≠ -1 := by
  intro z
  have h := pl_52 hl hb
  have h2 := congrArg (fun x : Int64 => x.toBitVec.toNat) z
  simp only [pkd] at h2
  rw [wb_tn (by omega)] at h2
  have h3 : (-1 : Int64).toBitVec.toNat = 18446744073709551615 := by decide
  rw [h3] at h2
  omega
/-- a value of the class, or its word for none -/
def pko (o : Option (List Nat)) : Int64 := match o with
  | some l => pkd l
  | none => -1
set_option maxRecDepth 20000 in
theorem c_SX_plainText {l : Launch} {V : xV} {I : xIt} {J : xJt} {P : xPt} {L : List Nat} (hL : xL P) (hl : L.length ≤ 6) (hb : by8 L) : xMet l V y_SX_plainText 2 0 0 [xj (pkd L)] xS0 I J P (xPl (fun r I' J' P' => I = I' ∧ J = J' ∧ P = P' ∧ r = pko (ptx L [] false))) := by
  have loop : ∀ (k j : Nat) (p : List Nat) (w : Bool), j + k = L.length → p.length + (if w then 1 else 0) ≤ j → by8 p → (w = true → p ≠ []) → (ptx L [] false = ptx (L.drop j) p w) → G_SX_plainText l V (fun r I' J' P' => I = I' ∧ J = J' ∧ P = P' ∧ r = pko (ptx L [] false)) 8 [(0, xj (pkd L)), (2, xj (pkd p)), (4, xi (if w then 1 else 0)), (5, xi (nI j))] [] I J P := by
    intro k
    induction k with
    | zero =>
      intro j p w hj hp hbp hw hx
      have hpl : p.length ≤ 6 := by omega
      refine b_SX_plainText_8 hL ⟨_, c_PK_sizeOf hL hl hb, ?_⟩
      rintro z I1 _ _ ⟨rfl, rfl, rfl, rfl⟩
      refine pk_le L.length j (fun _ => ?_) (fun z => by omega)
      rw [lg_cmp_eq]
      have hd : L.drop j = [] := List.drop_eq_nil_of_le (by omega)
      rw [hd] at hx
      by_cases hpe : p = []
      · subst hpe
        exact ⟨fun z => absurd pkd_0 z, fun _ => ⟨rfl, rfl, rfl, by rw [hx]; rfl⟩⟩
      · exact ⟨fun _ => ⟨rfl, rfl, rfl, by rw [hx]; simp [ptx, hpe, pko]⟩, fun z => absurd z (pkd_ne hpl hbp hpe)⟩
    | succ k ih =>
      intro j p w hj hp hbp hw hx
      have hpl : p.length ≤ 6 := by omega
      obtain ⟨c, hc⟩ : ∃ c, L[j]? = some c := ⟨_, List.getElem?_eq_getElem (show j < L.length by omega)⟩
      have hc6 : c < 256 := hb c (List.mem_of_getElem? hc)
      have hdrop : L.drop j = c :: L.drop (j + 1) := by
        have hjl : j < L.length := by omega
        have hc' : L[j] = c := Option.some.inj ((List.getElem?_eq_getElem hjl).symm.trans hc)
        rw [List.drop_eq_getElem_cons hjl, hc']
      rw [hdrop] at hx
      refine b_SX_plainText_8 hL ⟨_, c_PK_sizeOf hL hl hb, ?_⟩
      rintro z I1 _ _ ⟨rfl, rfl, rfl, rfl⟩
      refine pk_le L.length j (fun z => by omega) (fun _ => ⟨_, c_PK_byteAt hL hl hb hc, ?_⟩)
      rintro z I1 _ _ ⟨rfl, rfl, rfl, rfl⟩
      refine pk_lt c 32 (fun z => ⟨rfl, rfl, rfl, by rw [hx]; simp [ptx, z, pko]⟩) (fun z => pk_le c 126 (fun z2 => ?_) (fun z2 => ⟨rfl, rfl, rfl, by rw [hx]; simp [ptx, z2, pko]⟩))
      have hin : ¬ (c < 32 ∨ 126 < c) := by omega
      rw [nI_1]
      refine (pk_eq c 32 (fun z3 => ?_) (fun z3 => ?_)).symm
      · rw [lg_cmp_eq]
        have hx' : ptx L [] false = ptx (L.drop (j + 1)) p (!p.isEmpty) := by rw [hx, ptx, if_neg hin, if_pos z3]
        by_cases hpe : p = []
        · subst hpe
          exact ⟨fun _ => ih (j + 1) [] false (by omega) (by simp) hbp (fun z => by cases z) (by simpa using hx'), fun z => absurd pkd_0 z⟩
        · have he : (!p.isEmpty) = true := by simp [hpe]
          rw [he] at hx'
          refine ⟨fun z => absurd z (pkd_ne hpl hbp hpe), fun _ => ih (j + 1) p true (by omega) ?_ hbp (fun _ => hpe) hx'⟩
          simp
          omega
      · have hx' : ptx L [] false = ptx (L.drop (j + 1)) (p ++ (if w then [32] else []) ++ [low c]) false := by rw [hx, ptx, if_neg hin, if_neg z3]
        cases w with
        | false =>
          simp at hp hx'
          refine ⟨fun _ => ⟨_, c_SX_smallLetter hL hc6, ?_⟩, fun z => absurd rfl z⟩
          rintro z I1 _ _ ⟨rfl, rfl, rfl, rfl⟩
          refine ⟨_, c_PK_append hL (by omega) hbp (low_256 hc6), ?_⟩
          rintro z I1 _ _ ⟨rfl, rfl, rfl, rfl⟩
          exact ih (j + 1) (p ++ [low c]) false (by omega) (by simp; omega) (by8_app hbp (fun b hb => by simp at hb; rw [hb]; exact low_256 hc6)) (fun z => by cases z) hx'
        | true =>
          simp at hp hx'
          refine ⟨fun z => absurd z (by decide), fun _ => ⟨_, c_PK_append (b := 32) hL (by omega) hbp (by decide), ?_⟩⟩
          rintro z I1 _ _ ⟨rfl, rfl, rfl, rfl⟩
          refine ⟨_, c_SX_smallLetter hL hc6, ?_⟩
          rintro z I1 _ _ ⟨rfl, rfl, rfl, rfl⟩
          have hb32 : by8 (p ++ [32]) := by8_app hbp (fun b hb => by simp at hb; omega)
          refine ⟨_, c_PK_append hL (by simp; omega) hb32 (low_256 hc6), ?_⟩
          rintro z I1 _ _ ⟨rfl, rfl, rfl, rfl⟩
          exact ih (j + 1) (p ++ [32] ++ [low c]) false (by omega) (by simp; omega) (by8_app hb32 (fun b hb => by simp at hb; rw [hb]; exact low_256 hc6)) (fun z => by cases z) (by simpa using hx')
  exact e_SX_plainText (b_SX_plainText_0 hL (loop L.length 0 [] false (by omega) (by simp) (fun b hb => by cases hb) (fun z => by cases z) (by simp)))

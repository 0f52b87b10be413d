/-! the reference: forms of values, places in a row -/
section XRV2
variable {l : Launch} {V : xV} {I : xIt} {J : xJt} {P : xPt} {m : Nat → Nat} {e : Nat} {g : List Nat}
def Qfo (t k : Nat) (g : List Nat) (I : xIt) (J : xJt) (P : xPt) : Int32 → xIt → xJt → xPt → Prop := fun r I' J' P' => J = J' ∧ P = P' ∧ xSfo k I I' ∧ r = oln (fo t g) ∧ ∀ p, fo t g = some p → xFm I' k p
theorem nI_8m (k : Nat) : (8 : Int32) * nI k = nI (8 * k) := pk_mul 8 k
set_option maxRecDepth 20000 in
theorem c_RF_formOf {t k : Nat} (hL : xL P) (hg : xGv I g) (hl : g.length ≤ 32) (hb : by8 g) (ht : t < 5) (hk : k < 5) : xMet l V y_RF_formOf 3 0 0 [xq (some 250), xi (nI t), xi (nI k)] xS0 I J P (xPi (Qfo t k g I J P)) := by
  have h21 := hg.1
  refine e_RF_formOf (b_RF_formOf_0 hL ?_)
  rw [h21, nI_8m]
  refine pk_lt g.length 1 (fun z => ⟨rfl, rfl, xSfo.rfl, ?_, fun p hp => ?_⟩) (fun z => pk_le g.length 6 (fun z6 => ?_) (fun z6 => ⟨rfl, rfl, xSfo.rfl, ?_, fun p hp => ?_⟩))
  · rw [fo, if_neg (by omega)]; rfl
  · rw [fo, if_neg (by omega)] at hp; cases hp
  · have hne : g ≠ [] := fun h => by rw [h] at z; simp at z
    have hfo : fo t g = po t g := by rw [fo, if_pos (by omega)]
    have hby : ∀ j, (h : j < g.length) → I 254 j = nI g[j] := fun j h => by
      have := hg.2 j _ (List.getElem?_eq_getElem h)
      rwa [Nat.zero_add] at this
    -- the bytes go into the form
    have loop : ∀ (good : Bool), (if t = 0 then (good = true → ∃ p, po t g = some p ∧ p = g.map low) else (good = true → po t g = some g)) → (good = false → po t g = none) → ∀ (n j : Nat) (I1 : xIt), j + n = g.length → xSfo k I I1 → (∀ i, (h : i < j) → (h2 : i < g.length) → I1 255 (8 * k + i) = nI (if t = 0 then low g[i] else g[i])) → G_RF_formOf l V (Qfo t k g I J P) 104 [(0, xq (some 250)), (1, xi (nI t)), (2, xi (nI k)), (3, xi (if good then 1 else 0)), (4, xi (nI j))] [] I1 J P := by
      intro good hg1 hg0 n
      induction n with
      | zero =>
        intro j I1 hj hs hd
        have h21' := (hs.gv hg).1
        refine b_RF_formOf_104 hL (pk_le g.length j (fun _ => ?_) (fun z => by omega) h21')
        rw [h21']
        cases good with
        | false =>
          refine ⟨fun _ => ⟨rfl, rfl, hs, ?_, fun p hp => ?_⟩, fun z => absurd rfl z⟩
          · rw [hfo, hg0 rfl]; rfl
          · rw [hfo, hg0 rfl] at hp; cases hp
        | true =>
          refine ⟨fun z => absurd z (by decide), fun _ => ⟨rfl, rfl, hs, ?_, fun p hp => ?_⟩⟩
          · by_cases h0 : t = 0
            · rw [if_pos h0] at hg1
              obtain ⟨p, hp, hpe⟩ := hg1 rfl
              rw [hfo, hp, hpe]
              simp [oln]
            · rw [if_neg h0] at hg1
              rw [hfo, hg1 rfl]
              rfl
          · by_cases h0 : t = 0
            · rw [if_pos h0] at hg1
              obtain ⟨p', hp', hpe⟩ := hg1 rfl
              rw [hfo, hp'] at hp
              cases hp
              intro i b hi
              rw [hpe, List.getElem?_map] at hi
              obtain ⟨c, hc, rfl⟩ := Option.map_eq_some_iff.mp hi
              obtain ⟨hil, hce⟩ := List.getElem?_eq_some_iff.mp hc
              have := hd i (by omega) hil
              rw [if_pos h0, hce] at this
              exact this
            · rw [if_neg h0] at hg1
              rw [hfo, hg1 rfl] at hp
              cases hp
              intro i b hi
              obtain ⟨hil, hce⟩ := List.getElem?_eq_some_iff.mp hi
              have := hd i (by omega) hil
              rw [if_neg h0, hce] at this
              exact this
      | succ n ih =>
        intro j I1 hj hs hd
        have h21' := (hs.gv hg).1
        have hjl : j < g.length := by omega
        have h256 := hb g[j] (List.getElem_mem hjl)
        have hc : I1 254 j = nI g[j] := (hs 254 j (by omega)).trans (hby j hjl)
        have next : ∀ v, v = nI (if t = 0 then low g[j] else g[j]) → G_RF_formOf l V (Qfo t k g I J P) 104 [(0, xq (some 250)), (1, xi (nI t)), (2, xi (nI k)), (3, xi (if good then 1 else 0)), (4, xi (nI (j + 1)))] [] (xu I1 255 (8 * k + j) v) J P := by
          rintro _ rfl
          refine ih (j + 1) _ (by omega) (hs.put (by omega)) (fun i h1 h2 => ?_)
          by_cases hij : i = j
          · subst hij; rw [xu_at]
          · rw [xu_other (by omega)]; exact hd i (by omega) h2
        refine b_RF_formOf_104 hL (pk_le g.length j (fun z => by omega) (fun _ => ?_) h21')
        rw [nI_8m, nI_add, nI_1, ncl j, ncl (8 * k + j), hc]
        refine (pk_eq t 0 (fun h0 => ⟨pk_in j 32 (by omega), _, c_RF_small hL h256, ?_⟩) (fun h0 => ⟨pk_in j 32 (by omega), pk_in (8 * k + j) 40 (by omega), next _ (by rw [if_neg h0])⟩)).symm
        rintro w I2 _ _ ⟨rfl, rfl, rfl, rfl⟩
        exact ⟨pk_in (8 * k + j) 40 (by omega), next _ (by rw [if_pos h0])⟩
    have t83 : (t = 0 → po t g = none) → ¬ t = 1 → ¬ t = 2 → ¬ t = 4 → G_RF_formOf l V (Qfo t k g I J P) 83 [(0, xq (some 250)), (1, xi (nI t)), (2, xi (nI k))] [] I J P := by
      intro hz h1 h2 h4
      refine b_RF_formOf_83 hL (pk_eq t 3 (fun h3 => ⟨_, c_RF_isNumber hL hg z6 hb hne, ?_⟩) (fun h3 => ?_)).symm
      · have h0 : t = 0 := by omega
        exact loop false (by rw [if_pos h0]; intro h; cases h) (fun _ => hz h0) g.length 0 I (by omega) xSfo.rfl (fun i h => by omega)
      · subst h3
        rintro w I2 _ _ ⟨rfl, rfl, rfl, rfl⟩
        by_cases hi : isn g = true
        · rw [if_pos hi]
          exact ⟨fun z => absurd z (by decide), fun _ => loop true (by rw [if_neg (by omega)]; intro _; simp [po, hne, hi]) (fun h => by cases h) g.length 0 I (by omega) xSfo.rfl (fun i h => by omega)⟩
        · rw [if_neg hi]
          exact ⟨fun _ => loop false (by rw [if_neg (by omega)]; intro h; cases h) (fun _ => by simp [po, hne, hi]) g.length 0 I (by omega) xSfo.rfl (fun i h => by omega), fun z => absurd rfl z⟩
    have text : t = 1 ∨ t = 2 → ∃ Q1 : Int32 → xIt → xJt → xPt → Prop, xMet l V y_RF_plainForm 2 0 0 [xq (some 250), xi (nI (8 * k))] xS0 I J P (xPi Q1) ∧ ∀ (z1 : Int32) I1 J1 P1, Q1 z1 I1 J1 P1 → Qfo t k g I J P z1 I1 J1 P1 := by
      intro h12
      have hpx : po t g = ptx g [] false := by rcases h12 with rfl | rfl <;> simp [po, hne]
      refine ⟨_, c_RF_plainForm hL hg z6 hb hk, ?_⟩
      rintro r I1 _ _ ⟨rfl, rfl, hs, rfl, hf⟩
      exact ⟨rfl, rfl, hs, by rw [hfo, hpx], fun p hp => hf p (by rw [← hpx, ← hfo]; exact hp)⟩
    refine pk_eq t 1 (fun h1 => text (Or.inl h1)) (fun h1 => (pk_eq t 2 (fun h2 => text (Or.inr h2)) (fun h2 => ?_)).symm)
    refine pk_eq t 4 (fun h4 => ?_) (fun h4 => (pk_eq t 0 (fun h0 => ?_) (fun h0 => t83 (fun h => absurd h h0) h1 h2 h4)).symm)
    · subst h4
      exact loop true (by rw [if_neg (by omega)]; intro _; simp [po, hne]) (fun h => by cases h) g.length 0 I (by omega) xSfo.rfl (fun i h => by omega)
    · subst h0
      refine (pk_eq g.length 1 (fun hl1 => ?_) (fun hl1 => t83 (fun _ => ?_) h1 h2 h4)).symm
      · obtain ⟨c, rfl⟩ := List.length_eq_one_iff.mp hl1
        have h256 := hb c (by simp)
        have hlc := low_256 h256
        have hc0 : I 254 0 = nI c := hby 0 (by simp)
        have hpo : po 0 [c] = if 97 ≤ low c ∧ low c ≤ 122 then some [low c] else none := by simp [po, ltr]
        rw [hc0]
        refine ⟨_, c_RF_small hL h256, ?_⟩
        rintro w I2 _ _ ⟨rfl, rfl, rfl, rfl⟩
        refine pk_lt (low c) 97 (fun z => t83 (fun _ => by rw [hpo, if_neg (by omega)]) h1 h2 h4) (fun z => ?_)
        rw [hc0]
        refine ⟨_, c_RF_small hL h256, ?_⟩
        rintro w I2 _ _ ⟨rfl, rfl, rfl, rfl⟩
        refine pk_le (low c) 122 (fun z2 => loop true (by rw [if_pos rfl]; intro _; exact ⟨[low c], by rw [hpo, if_pos (by omega)], rfl⟩) (fun h => by cases h) 1 0 I (by simp) xSfo.rfl (fun i h => by omega)) (fun z2 => t83 (fun _ => by rw [hpo, if_neg (by omega)]) h1 h2 h4)
      · match g, hne, hl1 with
        | [c], _, h => exact absurd rfl h
        | c :: c2 :: r, _, _ => simp [po, ltr]
  · rw [fo, if_neg (by omega)]; rfl
  · rw [fo, if_neg (by omega)] at hp; cases hp
/-- two rows of bytes, compared byte by byte -/
theorem bytes_step {p q : List Nat} {j : Nat} (hj : j < p.length) (h : p.length = q.length) (hp : p.take j = q.take j) : (p.take (j + 1) = q.take (j + 1)) ↔ p[j] = q[j] := by
  rw [List.take_succ, List.take_succ, List.getElem?_eq_getElem hj, List.getElem?_eq_getElem (show j < q.length by omega), hp]
  show q.take j ++ [p[j]] = q.take j ++ [q[j]] ↔ _
  constructor
  · intro h2
    exact (List.cons.inj (List.append_cancel_left h2)).1
  · intro h2
    rw [h2]
set_option maxRecDepth 20000 in
theorem c_RF_equalForms {a b : Nat} {p q : List Nat} (hL : xL P) (hp : xFm I a p) (hq : xFm I b q) (ha : a < 5) (hb : b < 5) (hpl : p.length ≤ 6) (hql : q.length ≤ 6) (h8 : by8 p) (h8' : by8 q) : xMet l V y_RF_equalForms 1 0 0 [xq (some 250), xi (nI a), xi (nI p.length), xi (nI b), xi (nI q.length)] xS0 I J P (xPi (fun r I' J' P' => I = I' ∧ J = J' ∧ P = P' ∧ r = if p = q then 1 else 0)) := by
  have no : ∀ (n j : Nat), j + n = p.length → p ≠ q → G_RF_equalForms l V (fun r I' J' P' => I = I' ∧ J = J' ∧ P = P' ∧ r = if p = q then 1 else 0) 16 [(0, xq (some 250)), (1, xi (nI a)), (2, xi (nI p.length)), (3, xi (nI b)), (4, xi (nI q.length)), (5, xi 0), (6, xi (nI j))] [] I J P := by
    intro n j hj hne
    refine b_RF_equalForms_16 hL (pk_le p.length j (fun _ => ⟨Or.inl rfl, rfl, rfl, rfl, by rw [if_neg hne]⟩) (fun _ => ⟨fun _ => ⟨Or.inl rfl, rfl, rfl, rfl, by rw [if_neg hne]⟩, fun z => absurd rfl z⟩))
  have loop : ∀ (n j : Nat), j + n = p.length → p.length = q.length → p.take j = q.take j → G_RF_equalForms l V (fun r I' J' P' => I = I' ∧ J = J' ∧ P = P' ∧ r = if p = q then 1 else 0) 16 [(0, xq (some 250)), (1, xi (nI a)), (2, xi (nI p.length)), (3, xi (nI b)), (4, xi (nI q.length)), (5, xi 1), (6, xi (nI j))] [] I J P := by
    intro n
    induction n with
    | zero =>
      intro j hj hpq ht
      have he : p = q := by rw [List.take_of_length_le (by omega), List.take_of_length_le (by omega)] at ht; exact ht
      refine b_RF_equalForms_16 hL (pk_le p.length j (fun _ => ⟨Or.inr rfl, rfl, rfl, rfl, by rw [if_pos he]⟩) (fun z => by omega))
    | succ n ih =>
      intro j hj hpq ht
      have hjl : j < p.length := by omega
      have hjl' : j < q.length := by omega
      refine b_RF_equalForms_16 hL (pk_le p.length j (fun z => by omega) (fun _ => ⟨fun z => absurd z (by decide), fun _ => ?_⟩))
      rw [nI_8m, nI_8m, nI_add, nI_add, nI_1, ncl (8 * a + j), ncl (8 * b + j), hp j _ (List.getElem?_eq_getElem hjl), hq j _ (List.getElem?_eq_getElem hjl')]
      refine ⟨pk_in (8 * a + j) 40 (by omega), pk_in (8 * b + j) 40 (by omega), (pk_eq p[j] q[j] (fun z => ih (j + 1) (by omega) hpq ((bytes_step hjl hpq ht).mpr z)) (fun z => no n (j + 1) (by omega) (fun h => z (by subst h; rfl))) rfl rfl (by have := h8 p[j] (List.getElem_mem hjl); omega) (by have := h8' q[j] (List.getElem_mem hjl'); omega)).symm⟩
  refine e_RF_equalForms (b_RF_equalForms_0 hL ((pk_eq p.length q.length (fun z => loop p.length 0 (by omega) z rfl) (fun z => no p.length 0 (by omega) (fun h => z (by rw [h])))).symm))
end XRV2
/-- one value at the value's place s -/
def xVv (I : xIt) (s : Nat) (v : Vl) : Prop := (v.1.length ≤ 6 ∧ v.2.length ≤ 6) ∧ I 259 s = nI v.1.length ∧ I 261 s = nI v.2.length ∧ xBy I 260 (6 * s) v.1 ∧ xBy I 262 (6 * s) v.2
/-- the values at the row's place S -/
def xRr (I : xIt) (S : Nat) (R : List Vl) : Prop := R.length ≤ 3 ∧ I 258 S = nI R.length ∧ ∀ q v, R[q]? = some v → xVv I (3 * S + q) v
/-- the cells of a value, of a row -/
def cv (s a j : Nat) : Prop := ((a = 259 ∨ a = 261) ∧ j = s) ∨ ((a = 260 ∨ a = 262) ∧ 6 * s ≤ j ∧ j < 6 * s + 6)
def cr (S a j : Nat) : Prop := (a = 258 ∧ j = S) ∨ ((a = 259 ∨ a = 261) ∧ 3 * S ≤ j ∧ j < 3 * S + 3) ∨ ((a = 260 ∨ a = 262) ∧ 18 * S ≤ j ∧ j < 18 * S + 18)
theorem xVv.keep {I I' : xIt} {s : Nat} {v : Vl} (h : xVv I s v) (hI : ∀ a j, cv s a j → I' a j = I a j) : xVv I' s v := ⟨h.1, (hI 259 s (by unfold cv; omega)).trans h.2.1, (hI 261 s (by unfold cv; omega)).trans h.2.2.1, h.2.2.2.1.far (fun j h1 h2 => hI 260 j (by have := h.1; unfold cv; omega)), h.2.2.2.2.far (fun j h1 h2 => hI 262 j (by have := h.1; unfold cv; omega))⟩
theorem xRr.keep {I I' : xIt} {S : Nat} {R : List Vl} (h : xRr I S R) (hI : ∀ a j, cr S a j → I' a j = I a j) : xRr I' S R := ⟨h.1, (hI 258 S (by unfold cr; omega)).trans h.2.1, fun q v hq => (h.2.2 q v hq).keep (fun a j hc => hI a j (by have := (List.getElem?_eq_some_iff.mp hq).1; have := h.1; unfold cv at hc; unfold cr; omega))⟩
section XRV3
variable {l : Launch} {V : xV} {I : xIt} {J : xJt} {P : xPt} {g : List Nat}
def pix (o : Option Nat) : Int32 := match o with
  | some q => nI q
  | none => -1
/-- the place of a plain value in a row -/
def plc (R : List Vl) (p : List Nat) : Option Nat := R.findIdx? (fun v => v.2 == p)
theorem nI_5m (k : Nat) : (5 : Int32) * nI k = nI (5 * k) := pk_mul 5 k
theorem nI_15m (k : Nat) : (15 : Int32) * nI k = nI (15 * k) := pk_mul 15 k
theorem nI_3m (k : Nat) : (3 : Int32) * nI k = nI (3 * k) := pk_mul 3 k
theorem nI_6m (k : Nat) : (6 : Int32) * nI k = nI (6 * k) := pk_mul 6 k
set_option maxRecDepth 20000 in
theorem c_RF_placeOf {e t k : Nat} {R : List Vl} {p : List Nat} (hL : xL P) (hR : xRr I (5 * e + t) R) (hf : xFm I k p) (he : e < 13) (ht : t < 5) (hk : k < 5) (hp : p.length ≤ 6) (h8 : by8 p) (h8' : ∀ v ∈ R, by8 v.2) : xMet l V y_RF_placeOf 1 0 0 [xq (some 250), xi (nI e), xi (nI t), xi (nI k), xi (nI p.length)] xS0 I J P (xPi (fun r I' J' P' => I = I' ∧ J = J' ∧ P = P' ∧ r = pix (plc R p))) := by
  have hl3 := hR.1
  have hcnt := hR.2.1
  have loop : ∀ (n q : Nat), q + n = R.length → (∀ i v, i < q → R[i]? = some v → (v.2 == p) = false) → G_RF_placeOf l V (fun r I' J' P' => I = I' ∧ J = J' ∧ P = P' ∧ r = pix (plc R p)) 3 [(0, xq (some 250)), (1, xi (nI e)), (2, xi (nI t)), (3, xi (nI k)), (4, xi (nI p.length)), (5, xi (nI q))] [] I J P := by
    intro n
    induction n with
    | zero =>
      intro q hq hn
      refine b_RF_placeOf_3 hL ?_
      rw [nI_5m, nI_add, ncl (5 * e + t), hcnt]
      refine ⟨pk_in (5 * e + t) 65 (by omega), pk_le R.length q (fun _ => ⟨rfl, rfl, rfl, ?_⟩) (fun z => by omega)⟩
      rw [plc, drop_find hn, List.drop_eq_nil_of_le (by omega)]
      rfl
    | succ n ih =>
      intro q hq hn
      have hql : q < R.length := by omega
      have hv := hR.2.2 q _ (List.getElem?_eq_getElem hql)
      have h82 := h8' R[q] (List.getElem_mem hql)
      have hss : 15 * e + 3 * t + q = 3 * (5 * e + t) + q := by omega
      have hv2 := hv.1.2
      have next : R[q].2 ≠ p → G_RF_placeOf l V (fun r I' J' P' => I = I' ∧ J = J' ∧ P = P' ∧ r = pix (plc R p)) 3 [(0, xq (some 250)), (1, xi (nI e)), (2, xi (nI t)), (3, xi (nI k)), (4, xi (nI p.length)), (5, xi (nI (q + 1)))] [] I J P := by
        intro hne
        refine ih (q + 1) (by omega) (fun i v hi hx => ?_)
        by_cases hiq : i = q
        · subst hiq
          rw [List.getElem?_eq_getElem hql] at hx
          cases hx
          simp [hne]
        · exact hn i v (by omega) hx
      have found : R[q].2 = p → I = I ∧ J = J ∧ P = P ∧ nI q = pix (plc R p) := by
        intro heq
        refine ⟨rfl, rfl, rfl, ?_⟩
        rw [plc, drop_find hn, List.drop_eq_getElem_cons hql, List.findIdx?_cons, show (R[q].2 == p) = true from by simp [heq]]
        simp [pix]
      have no : ∀ (j : Nat), R[q].2 ≠ p → G_RF_placeOf l V (fun r I' J' P' => I = I' ∧ J = J' ∧ P = P' ∧ r = pix (plc R p)) 53 [(0, xq (some 250)), (1, xi (nI e)), (2, xi (nI t)), (3, xi (nI k)), (4, xi (nI p.length)), (5, xi (nI q)), (6, xi (nI (15 * e + 3 * t + q))), (7, xi 0), (8, xi (nI j))] [] I J P := by
        intro j hne
        refine b_RF_placeOf_53 hL ?_
        rw [nI_1]
        exact ⟨fun _ => ⟨fun _ => next hne, fun z => absurd rfl z⟩, fun _ => ⟨fun _ => ⟨fun _ => next hne, fun z => absurd rfl z⟩, fun z => absurd rfl z⟩⟩
      have cmp : ∀ (i j : Nat), j + i = p.length → R[q].2.length = p.length → R[q].2.take j = p.take j → G_RF_placeOf l V (fun r I' J' P' => I = I' ∧ J = J' ∧ P = P' ∧ r = pix (plc R p)) 53 [(0, xq (some 250)), (1, xi (nI e)), (2, xi (nI t)), (3, xi (nI k)), (4, xi (nI p.length)), (5, xi (nI q)), (6, xi (nI (15 * e + 3 * t + q))), (7, xi 1), (8, xi (nI j))] [] I J P := by
        intro i
        induction i with
        | zero =>
          intro j hj hpq htk
          have he : R[q].2 = p := by rw [List.take_of_length_le (by omega), List.take_of_length_le (by omega)] at htk; exact htk
          refine b_RF_placeOf_53 hL (pk_le p.length j (fun _ => ⟨fun z => absurd z (by decide), fun _ => found he⟩) (fun z => by omega))
        | succ i ih2 =>
          intro j hj hpq htk
          have hjl : j < R[q].2.length := by omega
          have hjl' : j < p.length := by omega
          refine b_RF_placeOf_53 hL (pk_le p.length j (fun z => by omega) (fun _ => ⟨fun z => absurd z (by decide), fun _ => ?_⟩))
          rw [nI_6m, nI_8m, nI_add, nI_add, nI_1, ncl (6 * (15 * e + 3 * t + q) + j), ncl (8 * k + j), hss, hv.2.2.2.2 j _ (List.getElem?_eq_getElem hjl), hf j _ (List.getElem?_eq_getElem hjl')]
          refine ⟨pk_in (6 * (3 * (5 * e + t) + q) + j) 1170 (by omega), pk_in (8 * k + j) 40 (by omega), ?_⟩
          rw [← hss]
          exact (pk_eq R[q].2[j] p[j] (fun z => ih2 (j + 1) (by omega) hpq ((bytes_step hjl hpq htk).mpr z)) (fun z => no (j + 1) (fun h => z (by simp only [h]))) rfl rfl (by have := h82 R[q].2[j] (List.getElem_mem hjl); omega) (by have := h8 p[j] (List.getElem_mem hjl'); omega)).symm
      refine b_RF_placeOf_3 hL ?_
      rw [nI_5m, nI_15m, nI_3m, nI_add, nI_add, nI_add, ncl (5 * e + t), ncl (15 * e + 3 * t + q), hcnt, hss, hv.2.2.1]
      refine ⟨pk_in (5 * e + t) 65 (by omega), pk_le R.length q (fun z => by omega) (fun _ => ⟨pk_in (3 * (5 * e + t) + q) 195 (by omega), ?_⟩)⟩
      rw [← hss]
      exact (pk_eq R[q].2.length p.length (fun z => cmp p.length 0 (by omega) z rfl) (fun z => no 0 (fun h => z (by rw [h])))).symm
  exact e_RF_placeOf (b_RF_placeOf_0 hL (loop R.length 0 (by omega) (fun i v hi => by omega)))
theorem plc_hs {R : List Vl} {p : List Nat} : (plc R p).isSome = hs R p := by
  unfold plc hs
  induction R with
  | nil => rfl
  | cons v R ih =>
    rw [List.findIdx?_cons, List.any_cons]
    cases hb : (v.2 == p) with
    | true => rfl
    | false =>
      rw [Bool.false_or, ← ih]
      cases R.findIdx? (fun v => v.2 == p) <;> rfl
set_option maxRecDepth 20000 in
theorem c_RF_most {t : Nat} (hL : xL P) (ht : t < 5) : xMet l V y_RF_most 1 0 0 [xi (nI t)] xS0 I J P (xPi (fun r I' J' P' => I = I' ∧ J = J' ∧ P = P' ∧ r = nI (mo t))) := by
  refine e_RF_most (b_RF_most_0 hL (pk_eq t 0 (fun z => ⟨rfl, rfl, rfl, by rw [mo, if_pos (Or.inl z)]; rfl⟩) (fun z => (pk_eq t 2 (fun z2 => ⟨rfl, rfl, rfl, by rw [mo, if_pos (Or.inr z2)]; rfl⟩) (fun z2 => ⟨rfl, rfl, rfl, by rw [mo, if_neg (by omega)]; rfl⟩)).symm)))
end XRV3

/-! the reference: names -/
section XRN
variable {l : Launch} {V : xV} {I : xIt} {J : xJt} {P : xPt} {m : Nat → Nat} {e : Nat}
/-- nothing but the held text changed -/
def xSg (I I' : xIt) : Prop := ∀ a j, ¬ (a = 250 ∧ j = 21) → a ≠ 254 → I' a j = I a j
def Qrp (m : Nat → Nat) (p e : Nat) (I : xIt) (J : xJt) (P : xPt) : Int32 → xIt → xJt → xPt → Prop := fun r I' J' P' => J = J' ∧ P = P' ∧ xSg I I' ∧ match sc m e 200 p [] with
  | some x => r = nI x.2 ∧ xGv I' x.1
  | none => r = -1
set_option maxRecDepth 20000 in
theorem c_RF_readPart {p : Nat} (hL : xL P) (hm : xMs I 251 m e) (he : e ≤ 160) (hp : p ≤ e) (h30 : e - p ≤ 30) : xMet l V y_RF_readPart 1 0 0 [xq (some 250), xi (nI p), xi (nI e)] xS0 I J P (xPi (Qrp m p e I J P)) := by
  have loop : ∀ (n k : Nat) (acc : List Nat) (I1 : xIt), e - k < n → k ≤ e → acc.length + p ≤ k → xSg I I1 → xGv I1 acc → sc m e 200 p [] = sc m e n k acc → G_RF_readPart l V (Qrp m p e I J P) 7 [(0, xq (some 250)), (1, xi (nI p)), (2, xi (nI e)), (3, xi (nI k))] [] I1 J P := by
    intro n
    induction n with
    | zero => intro k acc I1 h; omega
    | succ n ih =>
      intro k acc I1 hn hk hac hs hg hx
      rw [sc_succ m e n k acc] at hx
      have hm1 : ∀ j, j < e → I1 251 j = nI (m j) := fun j hj => (hs 251 j (by omega) (by omega)).trans (hm j hj).1
      -- one more byte
      have more : ∀ (i : Nat), i < e → acc.length + p ≤ i → k ≤ i → sc m e 200 p [] = sc m e n (i + 1) (acc ++ [m i]) → G_RF_readPart l V (Qrp m p e I J P) 90 [(0, xq (some 250)), (1, xi (nI p)), (2, xi (nI e)), (3, xi (nI i))] [] I1 J P := by
        intro i hi hai hki hx2
        refine b_RF_readPart_90 hL ?_
        rw [hg.1, ncl acc.length, ncl i, hm1 i hi, nI_1, nI_1]
        refine ⟨pk_in i 160 (by omega), pk_in acc.length 32 (by omega), ih (i + 1) (acc ++ [m i]) _ (by omega) (by omega) (by simp; omega) (fun a j h1 h2 => (xu_other h1).trans ((xu_other (by omega)).trans (hs a j h1 h2))) ⟨by rw [xu_at]; simp, fun j b hj => ?_⟩ hx2⟩
        rw [xu_other (by omega), Nat.zero_add]
        by_cases hjl : j < acc.length
        · rw [List.getElem?_append_left hjl] at hj
          have := hg.2 j b hj
          rw [Nat.zero_add] at this
          rw [xu_other (by omega)]; exact this
        · rw [List.getElem?_append_right (by omega)] at hj
          have h8 : j = acc.length := by
            have := (List.getElem?_eq_some_iff.mp hj).1
            simp at this
            omega
          subst h8
          simp at hj
          subst hj
          exact xu_at
      refine b_RF_readPart_7 hL (pk_le e k (fun z => ?_) (fun z => ⟨pk_in k 160 (by omega), ?_⟩))
      · rw [if_pos z] at hx
        exact ⟨rfl, rfl, hs, by rw [hx]; exact ⟨rfl, hg⟩⟩
      rw [if_neg (by omega)] at hx
      have h256 := (hm k (by omega)).2
      rw [ncl k, hm1 k (by omega), nI_1]
      refine pk_eq (m k) 44 (fun z2 => ?_) (fun z2 => ⟨pk_in k 160 (by omega), ?_⟩)
      · rw [if_pos z2] at hx
        exact ⟨rfl, rfl, hs, by rw [hx]; exact ⟨rfl, hg⟩⟩
      rw [if_neg z2] at hx
      refine (pk_eq (m k) 61 (fun z3 => ?_) (fun z3 => ⟨pk_in k 160 (by omega), ?_⟩)).symm
      · rw [if_neg (by omega), if_pos z3] at hx
        exact ⟨rfl, rfl, hs, by rw [hx]⟩
      refine (pk_eq (m k) 92 (fun z4 => ?_) (fun z4 => ?_)).symm
      · rw [if_pos z4] at hx
        refine pk_le e (k + 1) (fun z5 => ?_) (fun z5 => ⟨pk_in (k + 1) 160 (by omega), ?_⟩)
        · rw [if_pos (by omega)] at hx
          exact ⟨rfl, rfl, hs, by rw [hx]⟩
        rw [if_neg (by omega)] at hx
        have h256' := (hm (k + 1) (by omega)).2
        rw [ncl (k + 1), hm1 (k + 1) (by omega)]
        have go : mkd (m (k + 1)) = true → G_RF_readPart l V (Qrp m p e I J P) 90 [(0, xq (some 250)), (1, xi (nI p)), (2, xi (nI e)), (3, xi (nI (k + 1)))] [] I1 J P := fun h => more (k + 1) (by omega) (by omega) (by omega) (by rw [hx, if_pos h])
        refine pk_eq (m (k + 1)) 44 (fun z6 => go (by simp [mkd, z6])) (fun z6 => ⟨pk_in (k + 1) 160 (by omega), pk_eq (m (k + 1)) 61 (fun z7 => go (by simp [mkd, z7])) (fun z7 => ⟨pk_in (k + 1) 160 (by omega), pk_eq (m (k + 1)) 92 (fun z8 => go (by simp [mkd, z8])) (fun z8 => ?_)⟩)⟩)
        rw [if_neg (by simp [mkd, z6, z7, z8])] at hx
        exact ⟨rfl, rfl, hs, by rw [hx]⟩
      · rw [if_neg z4, if_neg z3] at hx
        exact more k (by omega) hac (Nat.le_refl _) hx
  refine e_RF_readPart (b_RF_readPart_0 hL (loop 200 p [] _ (by omega) hp (by simp) (fun a j h1 h2 => xu_other h1) ⟨xu_at, fun j b hj => by simp at hj⟩ rfl))
/-- the name that was read -/
def xRn (I : xIt) (L : List (Nat × List Nat × List Nat)) : Prop := I 250 24 = nI L.length ∧ ∀ (i : Nat) (x : Nat × List Nat × List Nat), L[i]? = some x → I 256 i = nI x.1 ∧ I 257 i = nI x.2.2.length ∧ xFm I i x.2.2
/-- nothing but what a name is read into changed -/
def xSn (I I' : xIt) : Prop := ∀ a j, ¬ (a = 250 ∧ (j = 21 ∨ j = 24)) → a ≠ 254 → a ≠ 256 → a ≠ 257 → ¬ (a = 255 ∧ j < 24) → I' a j = I a j
theorem xSn.rfl {I : xIt} : xSn I I := fun _ _ _ _ _ _ _ => Eq.refl _
theorem xSn.trans {I I1 I2 : xIt} (h : xSn I I1) (h2 : xSn I1 I2) : xSn I I2 := fun a j h3 h4 h5 h6 h7 => (h2 a j h3 h4 h5 h6 h7).trans (h a j h3 h4 h5 h6 h7)
def Qrn (m : Nat → Nat) (s e : Nat) (I : xIt) (J : xJt) (P : xPt) : Int32 → xIt → xJt → xPt → Prop := fun r I' J' P' => J = J' ∧ P = P' ∧ xSn I I' ∧ match nr m s e with
  | some L => r = nI L.length ∧ xRn I' L ∧ ∀ p, L = [p] → xGv I' p.2.1
  | none => r = -1
set_option maxRecDepth 20000 in
theorem c_RF_readName {s : Nat} (hL : xL P) (hm : xMs I 251 m e) (he : e ≤ 160) (hs : s ≤ e) (h30 : e - s ≤ 30) : xMet l V y_RF_readName 4 0 0 [xq (some 250), xi (nI s), xi (nI e)] xS0 I J P (xPi (Qrn m s e I J P)) := by
  have hb : ∀ j, j < e → m j < 256 := fun j hj => (hm j hj).2
  -- the name is read, or is none
  have fin : ∀ (L : List (Nat × List Nat × List Nat)) (I1 : xIt) (v3 : Int32), nr m s e = some L → L.length ≤ 3 → xSn I I1 → xRn I1 L → (∀ p, L = [p] → xGv I1 p.2.1) → G_RF_readName l V (Qrn m s e I J P) 19 [(0, xq (some 250)), (1, xi (nI s)), (2, xi (nI e)), (3, xi v3), (4, xi 0)] [] I1 J P := by
    intro L I1 v3 hn h3 hs1 hr hgv
    refine b_RF_readName_19 hL ⟨fun _ => ⟨rfl, rfl, hs1, ?_⟩, fun z => absurd rfl z⟩
    rw [hn]
    exact ⟨hr.1, hr, hgv⟩
  have loop : ∀ (n p : Nat) (L : List (Nat × List Nat × List Nat)) (I1 : xIt), L.length + n = 3 → s ≤ p → p ≤ e → xSn I I1 → xRn I1 L → (∀ x ∈ L, x.2.2.length ≤ 6) → (nr m s e = (nq m e n p).map (fun r => L ++ r)) → G_RF_readName l V (Qrn m s e I J P) 19 [(0, xq (some 250)), (1, xi (nI s)), (2, xi (nI e)), (3, xi (nI p)), (4, xi 1)] [] I1 J P := by
    intro n
    induction n with
    | zero =>
      intro p L I1 hl hsp hpe hs1 hr hL6 hx
      have hnone : nr m s e = none := by rw [hx, nq]; rfl
      have no : ∀ u0, G_RF_readName l V (Qrn m s e I J P) 43 [(0, xq (some 250)), (1, xi (nI s)), (2, xi (nI e)), (3, xi (nI p)), (4, xi 1)] [xi u0] I1 J P := by
        intro u0
        refine b_RF_readName_43 hL (pk_eq L.length 3 (fun _ => ⟨rfl, rfl, hs1, by rw [hnone]⟩) (fun z => by omega) hr.1)
      refine b_RF_readName_19 hL ⟨fun z => absurd z (by decide), fun _ => ?_⟩
      rw [nI_1]
      refine pk_le e (p + 1) (fun _ => no _) (fun z => ⟨_, c_RF_typeAt (q := (p, p + 1)) hL (fun j hj => ⟨(hs1 251 j (by omega) (by omega) (by omega) (by omega) (by omega)).trans (hm j hj).1, (hm j hj).2⟩) he (by simp; omega), ?_⟩)
      rintro w I2 _ _ ⟨rfl, rfl, rfl, rfl⟩
      exact no _
    | succ n ih =>
      intro p L I1 hl hsp hpe hs1 hr hL6 hx
      rw [nq_succ] at hx
      have hm1 : xMs I1 251 m e := fun j hj => ⟨(hs1 251 j (by omega) (by omega) (by omega) (by omega) (by omega)).trans (hm j hj).1, (hm j hj).2⟩
      have none43 : ∀ u0, np m p e = none → (u0 < 1 ∨ (∃ t : Nat, u0 = nI t ∧ t < 5 ∧ (¬ (1 ≤ t ∧ t ≤ 3) ∨ (¬ m (p + 1) = 61 ∧ p + 1 < e)))) → G_RF_readName l V (Qrn m s e I J P) 43 [(0, xq (some 250)), (1, xi (nI s)), (2, xi (nI e)), (3, xi (nI p)), (4, xi 1)] [xi u0] I1 J P := by
        intro u0 hnp hu
        have hnone : nr m s e = none := by rw [hx, hnp]; rfl
        have q0 : Qrn m s e I J P (-1) I1 J P := ⟨rfl, rfl, hs1, by rw [hnone]⟩
        refine b_RF_readName_43 hL ⟨fun _ => q0, fun _ => ⟨fun _ => q0, fun z1 => ⟨fun _ => q0, fun z2 => ?_⟩⟩⟩
        rcases hu with hu | ⟨t, rfl, ht, hu⟩
        · exact absurd hu z1
        · have h13 : 1 ≤ t ∧ t ≤ 3 := by
            constructor
            · exact Classical.byContradiction fun h => z1 (show nI t < nI 1 from nI_lt (by omega) (by omega))
            · exact Classical.byContradiction fun h => z2 (show nI 3 < nI t from nI_lt (by omega) (by omega))
          rcases hu with hu | ⟨hu, hpe1⟩
          · exact absurd h13 hu
          · rw [nI_1, ncl (p + 1), (hm1 (p + 1) hpe1).1]
            have h256 := hb (p + 1) hpe1
            exact ⟨pk_in (p + 1) 160 (by omega), pk_eq (m (p + 1)) 61 (fun z => absurd z hu) (fun _ => q0)⟩
      refine b_RF_readName_19 hL ⟨fun z => absurd z (by decide), fun _ => ?_⟩
      rw [nI_1]
      refine pk_le e (p + 1) (fun z => none43 _ ?_ (Or.inl (by decide))) (fun z => ⟨_, c_RF_typeAt (q := (p, p + 1)) hL hm1 he (by simp; omega), ?_⟩)
      · unfold np; rw [if_pos (Or.inl (by omega))]
      rintro w I2 _ _ ⟨rfl, rfl, rfl, rfl⟩
      have htyx : tyx m (p, p + 1) = ty (m p) := by unfold tyx; rw [if_pos (by simp)]
      rw [htyx]
      cases hty : ty (m p) with
      | none =>
        refine none43 _ ?_ (Or.inl (by decide))
        unfold np
        split
        · rfl
        · rw [hty]; rfl
      | some t =>
        have ht5 := tyx_5 (htyx.trans hty)
        rw [show tyo (some t) = nI t from rfl]
        by_cases h13 : 1 ≤ t ∧ t ≤ 3
        · by_cases h61 : m (p + 1) = 61
          · have h256 := hb (p + 1) (by omega)
            have hnp : np m p e = (sc m e 200 (p + 2) []).bind fun x => if x.1.length ≤ 6 then (po t x.1).map (fun q => (t, x.1, q, x.2)) else none := by
              unfold np
              rw [if_neg (by omega), hty]
              show (if 1 ≤ t ∧ t ≤ 3 then _ else _) = _
              rw [if_pos h13]
            refine b_RF_readName_43 hL (pk_eq L.length 3 (fun z => by omega) (fun _ => pk_lt t 1 (fun z => by omega) (fun _ => pk_lt 3 t (fun z => by omega) (fun _ => ?_))) hr.1)
            rw [nI_1, nI_2, ncl (p + 1), (hm1 (p + 1) (by omega)).1]
            refine ⟨pk_in (p + 1) 160 (by omega), pk_eq (m (p + 1)) 61 (fun _ => ⟨_, c_RF_readPart (p := p + 2) hL hm1 he (by omega) (by omega), ?_⟩) (fun z => absurd h61 z)⟩
            rintro z1 I2 _ _ ⟨rfl, rfl, hs2, hm2⟩
            have hs12 : xSn I I2 := fun a j h1 h2 h3 h4 h5 => (hs2 a j (by omega) h2).trans (hs1 a j h1 h2 h3 h4 h5)
            have no107 : ∀ (I3 : xIt) (v3 : Int32), xSn I I3 → np m p e = none → G_RF_readName l V (Qrn m s e I J P) 107 [(0, xq (some 250)), (1, xi (nI s)), (2, xi (nI e)), (3, xi v3), (4, xi 1), (5, xi (nI t))] [xi (-1)] I3 J P := by
              intro I3 v3 hs3 hn
              have hnone : nr m s e = none := by rw [hx, hn]; rfl
              exact b_RF_readName_107 hL ⟨fun z => absurd z (by decide), fun _ => ⟨rfl, rfl, hs3, by rw [hnone]⟩⟩
            cases hsc : sc m e 200 (p + 2) [] with
            | none =>
              rw [hsc] at hm2 hnp
              have hm2 : z1 = -1 := hm2
              subst hm2
              exact ⟨fun z => absurd z (by decide), fun _ => no107 I2 _ hs12 hnp⟩
            | some x =>
              rw [hsc] at hm2 hnp
              obtain ⟨rfl, hgx⟩ := hm2
              have hbd := sc_bd m e 200 (p + 2) [] x (by omega) hsc
              have hby := sc_by8 hb 200 (p + 2) [] x (fun b hb' => by cases hb') hsc
              have hxl : x.1.length ≤ 32 := by
                have : ∀ (n k : Nat) (acc : List Nat) (y : List Nat × Nat), k ≤ e → sc m e n k acc = some y → y.1.length + k ≤ acc.length + y.2 := by
                  intro n
                  induction n with
                  | zero => intro k acc y _ h; cases h
                  | succ n ih =>
                    intro k acc y hk h
                    rw [sc_succ] at h
                    by_cases c1 : e ≤ k
                    · rw [if_pos c1] at h; cases h; simp
                    rw [if_neg c1] at h
                    by_cases c2 : m k = 44
                    · rw [if_pos c2] at h; cases h; simp
                    rw [if_neg c2] at h
                    by_cases c3 : m k = 92
                    · rw [if_pos c3] at h
                      by_cases c4 : k + 1 = e
                      · rw [if_pos c4] at h; cases h
                      rw [if_neg c4] at h
                      by_cases c5 : mkd (m (k + 1)) = true
                      · rw [if_pos c5] at h
                        have := ih _ _ _ (by omega) h
                        simp at this; omega
                      · rw [if_neg c5] at h; cases h
                    rw [if_neg c3] at h
                    by_cases c4 : m k = 61
                    · rw [if_pos c4] at h; cases h
                    rw [if_neg c4] at h
                    have := ih _ _ _ (by omega) h
                    simp at this; omega
                have := this 200 (p + 2) [] x (by omega) hsc
                simp at this
                omega
              have h24 : I2 250 24 = nI L.length := (hs2 250 24 (by omega) (by omega)).trans hr.1
              refine ⟨fun _ => ?_, fun z => absurd (nI_pos' (by omega)) z⟩
              rw [h24]
              refine ⟨_, c_RF_formOf hL hgx hxl hby ht5 (by omega), ?_⟩
              rintro z2 I3 _ _ ⟨rfl, rfl, hs3, rfl, hf3⟩
              have hs13 : xSn I I3 := fun a j h1 h2 h3 h4 h5 => (hs3 a j (by omega)).trans (hs12 a j h1 h2 h3 h4 h5)
              have hnp2 : np m p e = (fo t x.1).map (fun q => (t, x.1, q, x.2)) := by
                rw [hnp]
                show (if x.1.length ≤ 6 then _ else _) = _
                unfold fo
                by_cases c6 : x.1.length ≤ 6
                · rw [if_pos c6]
                  by_cases c0 : 1 ≤ x.1.length
                  · rw [if_pos ⟨c0, c6⟩]
                  · have hn0 : x.1 = [] := List.eq_nil_of_length_eq_zero (by omega)
                    rw [if_neg (by omega), hn0]
                    simp [po]
                · rw [if_neg c6, if_neg (by omega)]; rfl
              cases hfo : fo t x.1 with
              | none =>
                rw [hfo] at hnp2
                exact no107 I3 _ hs13 hnp2
              | some q =>
                rw [hfo] at hnp2 hf3
                have hq6 := fo_ok hby hfo
                have hfq := hf3 q rfl
                have h243 : I3 250 24 = nI L.length := (hs3 250 24 (by omega)).trans h24
                rw [show oln (some q) = nI q.length from rfl]
                refine b_RF_readName_107 hL ⟨fun _ => ?_, fun z => absurd (nI_pos' (by omega)) z⟩
                rw [h243, ncl L.length, nI_1, nI_1]
                have hs4 : xSn I (xu (xu (xu I3 256 L.length (nI t)) 257 L.length (nI q.length)) 250 24 (nI (L.length + 1))) := fun a j h1 h2 h3 h4 h5 => (xu_other (by omega)).trans ((xu_other (by omega)).trans ((xu_other (by omega)).trans (hs13 a j h1 h2 h3 h4 h5)))
                have hr4 : xRn (xu (xu (xu I3 256 L.length (nI t)) 257 L.length (nI q.length)) 250 24 (nI (L.length + 1))) (L ++ [(t, x.1, q)]) := by
                  refine ⟨by rw [xu_at]; simp, fun i y hi => ?_⟩
                  by_cases hil : i < L.length
                  · rw [List.getElem?_append_left hil] at hi
                    have h5 := hr.2 i y hi
                    have hy6 := hL6 y (List.mem_of_getElem? hi)
                    refine ⟨?_, ?_, ?_⟩
                    · rw [xu_other (by omega), xu_other (by omega), xu_other (by omega), hs3 256 i (by omega), hs2 256 i (by omega) (by omega)]; exact h5.1
                    · rw [xu_other (by omega), xu_other (by omega), xu_other (by omega), hs3 257 i (by omega), hs2 257 i (by omega) (by omega)]; exact h5.2.1
                    · exact h5.2.2.far (fun j h6 h7 => by rw [xu_other (by omega), xu_other (by omega), xu_other (by omega), hs3 255 j (by omega), hs2 255 j (by omega) (by omega)])
                  · rw [List.getElem?_append_right (by omega)] at hi
                    have h8 : i = L.length := by
                      have := (List.getElem?_eq_some_iff.mp hi).1
                      simp at this
                      omega
                    subst h8
                    simp at hi
                    subst hi
                    refine ⟨?_, ?_, ?_⟩
                    · rw [xu_other (by omega), xu_other (by omega), xu_at]
                    · rw [xu_other (by omega), xu_at]
                    · exact hfq.far (fun j h6 h7 => by rw [xu_other (by omega), xu_other (by omega), xu_other (by omega)])
                refine ⟨pk_in L.length 3 (by omega), pk_in L.length 3 (by omega), pk_le e x.2 (fun z3 => ?_) (fun z3 => ?_)⟩
                · have hxe : x.2 = e := by omega
                  refine fin (L ++ [(t, x.1, q)]) _ _ ?_ (by simp; omega) hs4 hr4 (fun p' hp' => ?_)
                  · rw [hx, hnp2]
                    simp [hxe]
                  · have hL0 : L = [] := by
                      cases L with
                      | nil => rfl
                      | cons a b => simp at hp'
                    subst hL0
                    simp at hp'
                    subst hp'
                    exact (hs3.gv hgx).2.far (fun j _ _ => by rw [xu_other (by omega), xu_other (by omega), xu_other (by omega)]) |> fun h => ⟨by rw [xu_other (by omega), xu_other (by omega), xu_other (by omega)]; exact (hs3.gv hgx).1, h⟩
                · refine ih (x.2 + 1) (L ++ [(t, x.1, q)]) _ (by simp; omega) (by omega) (by omega) hs4 hr4 (fun y hy => ?_) ?_
                  · rcases List.mem_append.mp hy with hy | hy
                    · exact hL6 y hy
                    · simp at hy; subst hy; exact hq6.1
                  · rw [hx, hnp2]
                    simp only [Option.map_some, Option.bind_some]
                    rw [if_neg (by omega)]
                    cases nq m e n (x.2 + 1) <;> simp
          · refine none43 _ ?_ (Or.inr ⟨t, rfl, ht5, Or.inr ⟨h61, by omega⟩⟩)
            unfold np; rw [if_pos (Or.inr h61)]
        · refine none43 _ ?_ (Or.inr ⟨t, rfl, ht5, Or.inl h13⟩)
          unfold np
          split
          · rfl
          · rw [hty]
            show (if 1 ≤ t ∧ t ≤ 3 then _ else _) = _
            rw [if_neg h13]
  have hs0 : xSn I (xu I 250 24 0) := fun a j h1 h2 h3 h4 h5 => xu_other (by omega)
  refine e_RF_readName (b_RF_readName_0 hL (pk_le e s (fun z => fin [] _ _ ?_ (by simp) hs0 ⟨xu_at, fun i x hi => by simp at hi⟩ (fun p hp => by cases hp)) (fun z => loop 3 s [] _ rfl (Nat.le_refl _) (by omega) hs0 ⟨xu_at, fun i x hi => by simp at hi⟩ (fun x hx => by cases hx) ?_)))
  · unfold nr; rw [if_pos (by omega)]
  · unfold nr; rw [if_neg (by omega)]
    cases nq m e 3 s <;> simp
end XRN

/-! the reference: an entry goes out -/
/-- the places from u upwards -/
def apl (D : List Ent) : Nat → Option Nat → List Nat
  | 0, _ => []
  | _ + 1, none => []
  | n + 1, some e => match D[e]? with
    | none => []
    | some x => e :: apl D n x.2.2.2
def ptx2 (D : List Ent) (i : Nat) : Nat × List Nat := match D[i]? with
  | some x => (x.2.1, x.2.2.1)
  | none => (0, [])
theorem pts_apl {D : List Ent} : ∀ (n : Nat) (u : Option Nat), pts D n u = (apl D n u).map (ptx2 D) := by
  intro n
  induction n with
  | zero => intro u; cases u <;> rfl
  | succ n ih =>
    intro u
    cases u with
    | none => rfl
    | some e =>
      rw [pts, apl]
      cases hx : D[e]? with
      | none => rfl
      | some x =>
        simp only [List.map_cons]
        rw [ih, show ptx2 D e = (x.2.1, x.2.2.1) from by unfold ptx2; rw [hx]]
theorem apl_lt {D : List Ent} : ∀ (n : Nat) (u : Option Nat), ∀ i ∈ apl D n u, i < D.length := by
  intro n
  induction n with
  | zero => intro u i hi; cases u <;> cases hi
  | succ n ih =>
    intro u i hi
    cases u with
    | none => cases hi
    | some e =>
      rw [apl] at hi
      cases hx : D[e]? with
      | none => rw [hx] at hi; cases hi
      | some x =>
        rw [hx] at hi
        rcases List.mem_cons.mp hi with rfl | hi
        · exact (List.getElem?_eq_some_iff.mp hx).1
        · exact ih _ i hi
theorem apl_len {D : List Ent} : ∀ (n : Nat) (u : Option Nat), (apl D n u).length ≤ n := by
  intro n
  induction n with
  | zero => intro u; cases u <;> simp [apl]
  | succ n ih =>
    intro u
    cases u with
    | none => simp [apl]
    | some e =>
      rw [apl]
      cases hx : D[e]? with
      | none => simp
      | some x => simp; exact ih _
/-- each place's parent is the next place, and the last one's is the root -/
theorem apl_up {D : List Ent} : ∀ (n : Nat) (u : Option Nat), dpt D n u = true → ∀ (k i : Nat) (x : Ent), (apl D n u)[k]? = some i → D[i]? = some x → x.2.2.2 = (apl D n u)[k + 1]? := by
  intro n
  induction n with
  | zero => intro u h k i x hk; cases u <;> simp [apl] at hk
  | succ n ih =>
    intro u h k i x hk hx
    cases u with
    | none => simp [apl] at hk
    | some e =>
      rw [apl] at hk ⊢
      rw [dpt] at h
      cases hy : D[e]? with
      | none => rw [hy] at hk; simp at hk
      | some y =>
        rw [hy] at hk h
        simp only at hk ⊢
        cases k with
        | zero =>
          simp at hk
          subst hk
          rw [hy] at hx
          cases hx
          rw [List.getElem?_cons_succ]
          -- the first of what is above
          cases hu : x.2.2.2 with
          | none => cases n <;> rfl
          | some w =>
            simp only [hu] at h
            cases n with
            | zero => cases h
            | succ n =>
              rw [apl]
              rw [dpt] at h
              cases hz : D[w]? with
              | none => rw [hz] at h; cases h
              | some z => rfl
        | succ k =>
          rw [List.getElem?_cons_succ] at hk ⊢
          exact ih y.2.2.2 h k i x hk hx
theorem apl_head {D : List Ent} {n e : Nat} {x : Ent} (hx : D[e]? = some x) : (apl D (n + 1) (some e))[0]? = some e := by rw [apl, hx]; rfl
section XRC
variable {l : Launch} {V : xV} {I : xIt} {J : xJt} {P : xPt} {D : List Ent} {U : List Nat}
set_option maxRecDepth 20000 in
theorem c_RF_writeAttribute {s t : Nat} {R : List Vl} (hL : xL P) (hB : xBk I U) (hs13 : s < 13) (ht : t < 5) (hR : xRr I (5 * s + t) R) (hr : (U ++ (atb t R).reverse).length ≤ 256) : xMet l V y_RF_writeAttribute 3 0 0 [xq (some 250), xi (nI s), xi (nI t)] xS0 I J P (xPv (Qb (U ++ (atb t R).reverse) I J P)) := by
  have h3 := hR.1
  rw [List.length_append, List.length_reverse] at hr
  have he1 := enc_le 48 (enc 4 [ltt t] ++ enc 49 (vlb R))
  have he2 := enc_le 49 (vlb R)
  have hat : atb t R = enc 48 (enc 4 [ltt t] ++ enc 49 (vlb R)) := rfl
  rw [hat] at hr ⊢
  rw [List.length_append] at he1
  have hl3 : (enc 4 [ltt t]).length = 3 := by rw [enc_len]; rfl
  -- the values from the last one on
  have outer : ∀ (n : Nat) (v4 : Int32) (I1 : xIt), n ≤ R.length → (n = 0 → v4 < 0) → (0 < n → v4 = nI (n - 1)) → xSb I I1 → xBk I1 (U ++ (vlb (R.drop n)).reverse) → G_RF_writeAttribute l V (Qb (U ++ (enc 48 (enc 4 [ltt t] ++ enc 49 (vlb R))).reverse) I J P) 19 [(0, xq (some 250)), (1, xi (nI s)), (2, xi (nI t)), (3, xi (nI U.length)), (4, xi v4)] [] I1 J P := by
    intro n
    induction n with
    | zero =>
      intro v4 I1 hn h0 hp hs1 hB1
      rw [List.drop_zero] at hB1
      refine b_RF_writeAttribute_19 hL ⟨fun _ => ⟨_, c_RF_close (g := 49) hL hB1 (by rw [List.reverse_reverse, List.length_append, List.length_reverse]; omega), ?_⟩, fun z => absurd (h0 rfl) z⟩
      rintro I2 _ _ ⟨rfl, rfl, hs2, hB2⟩
      rw [List.reverse_reverse] at hB2
      refine ⟨_, c_RF_letter hL ht, ?_⟩
      rintro z3 I3 _ _ ⟨rfl, rfl, rfl, rfl⟩
      refine ⟨_, c_RF_put hL hB2 (by rw [List.length_append, List.length_reverse]; omega), ?_⟩
      rintro I4 _ _ ⟨rfl, rfl, hs4, hB4⟩
      rw [hB2.1]
      refine ⟨_, c_RF_close (g := 4) hL hB4 (by simp only [List.length_append, List.length_reverse]; rw [show [ltt t].reverse = [ltt t] from rfl, hl3]; omega), ?_⟩
      rintro I5 _ _ ⟨rfl, rfl, hs5, hB5⟩
      rw [List.append_assoc, show (enc 49 (vlb R)).reverse ++ (enc 4 [ltt t].reverse).reverse = (enc 4 [ltt t] ++ enc 49 (vlb R)).reverse from by rw [List.reverse_append]; rfl] at hB5
      refine ⟨_, c_RF_close (g := 48) hL hB5 (by rw [List.reverse_reverse, List.length_append, List.length_reverse]; omega), ?_⟩
      rintro I6 _ _ ⟨rfl, rfl, hs6, hB6⟩
      rw [List.reverse_reverse] at hB6
      exact ⟨rfl, rfl, hs1.trans (hs2.trans (hs4.trans (hs5.trans hs6))), hB6⟩
    | succ n ih =>
      intro v4 I1 hn h0 hp hs1 hB1
      have hv := hp (by omega)
      subst hv
      have hnl : n < R.length := by omega
      have hgn := List.getElem?_eq_getElem hnl
      have hvv := hR.2.2 n _ hgn
      have hv6 := hvv.1.1
      have hss : 15 * s + 3 * t + n = 3 * (5 * s + t) + n := by omega
      have hdrop : vlb (R.drop n) = enc 4 R[n].1 ++ vlb (R.drop (n + 1)) := by rw [List.drop_eq_getElem_cons hnl]; rfl
      have hle : (vlb (R.drop n)).length ≤ (vlb R).length := by
        have : vlb R = vlb (R.take n) ++ vlb (R.drop n) := by
          conv => lhs; rw [← List.take_append_drop n R]
          exact vlb_app _ _
        rw [this, List.length_append]
        omega
      have hee := enc_le 4 R[n].1
      rw [hdrop, List.length_append] at hle
      refine b_RF_writeAttribute_19 hL ⟨fun z => absurd z (nI_pos (by omega)), fun _ => ?_⟩
      rw [nI_15m, nI_3m, nI_add, show n + 1 - 1 = n by omega, nI_add, ncl (15 * s + 3 * t + n), hB1.1]
      refine ⟨pk_in (15 * s + 3 * t + n) 195 (by omega), ?_⟩
      rw [hss, hs1 259 (3 * (5 * s + t) + n) (by omega) (by omega), hvv.2.1]
      -- a value's bytes from the last one on
      have inner : ∀ (k : Nat) (v7 : Int32) (I2 : xIt), k ≤ R[n].1.length → (k = 0 → v7 < 0) → (0 < k → v7 = nI (k - 1)) → xSb I I2 → xBk I2 ((U ++ (vlb (R.drop (n + 1))).reverse) ++ (R[n].1.drop k).reverse) → G_RF_writeAttribute l V (Qb (U ++ (enc 48 (enc 4 [ltt t] ++ enc 49 (vlb R))).reverse) I J P) 54 [(0, xq (some 250)), (1, xi (nI s)), (2, xi (nI t)), (3, xi (nI U.length)), (4, xi (nI n)), (5, xi (nI (3 * (5 * s + t) + n))), (6, xi (nI (U ++ (vlb (R.drop (n + 1))).reverse).length)), (7, xi v7)] [] I2 J P := by
        intro k
        induction k with
        | zero =>
          intro v7 I2 hk h0 hp hs2 hB2
          rw [List.drop_zero] at hB2
          refine b_RF_writeAttribute_54 hL ⟨fun _ => ⟨_, c_RF_close (g := 4) hL hB2 (by rw [List.reverse_reverse]; simp only [List.length_append, List.length_reverse]; omega), ?_⟩, fun z => absurd (h0 rfl) z⟩
          rintro I3 _ _ ⟨rfl, rfl, hs3, hB3⟩
          rw [List.reverse_reverse, List.append_assoc, ← List.reverse_append, ← hdrop] at hB3
          exact ih _ I3 (by omega) (fun hz => by rw [hz]; decide) (fun hz => by rw [show n = (n - 1) + 1 by omega, pk_m1]; rfl) (hs2.trans hs3) hB3
        | succ k ih2 =>
          intro v7 I2 hk h0 hp hs2 hB2
          have hv := hp (by omega)
          subst hv
          have hkl : k < R[n].1.length := by omega
          have hbk : I2 260 (6 * (3 * (5 * s + t) + n) + k) = nI R[n].1[k] := (hs2 260 _ (by omega) (by omega)).trans (hvv.2.2.2.1 k _ (List.getElem?_eq_getElem hkl))
          refine b_RF_writeAttribute_54 hL ⟨fun z => absurd z (nI_pos (by omega)), fun _ => ?_⟩
          rw [nI_6m, show k + 1 - 1 = k by omega, nI_add, ncl (6 * (3 * (5 * s + t) + n) + k), hbk]
          refine ⟨pk_in (6 * (3 * (5 * s + t) + n) + k) 1170 (by omega), _, c_RF_put hL hB2 (by simp only [List.length_append, List.length_reverse, List.length_drop]; omega), ?_⟩
          rintro I3 _ _ ⟨rfl, rfl, hs3, hB3⟩
          refine ih2 _ I3 (by omega) (fun hz => by rw [hz]; decide) (fun hz => by rw [show k = (k - 1) + 1 by omega, pk_m1]; rfl) (hs2.trans hs3) ?_
          rw [List.drop_eq_getElem_cons hkl, List.reverse_cons, ← List.append_assoc]
          exact hB3
      have hB1' : xBk I1 ((U ++ (vlb (R.drop (n + 1))).reverse) ++ (R[n].1.drop R[n].1.length).reverse) := by simpa using hB1
      by_cases hz : R[n].1.length = 0
      · have := inner 0 (nI R[n].1.length - 1) I1 (by omega) (fun _ => by rw [hz]; decide) (fun h => by omega) hs1 (by rw [← hz]; exact hB1')
        exact this
      · exact inner R[n].1.length _ I1 (Nat.le_refl _) (fun h => absurd h hz) (fun _ => pk_sub (b := 1) (by omega)) hs1 hB1'
  refine e_RF_writeAttribute (b_RF_writeAttribute_0 hL ?_)
  rw [nI_5m, nI_add, ncl (5 * s + t), hR.2.1, hB.1]
  refine ⟨pk_in (5 * s + t) 65 (by omega), ?_⟩
  by_cases hz : R.length = 0
  · exact outer 0 _ I (by omega) (fun _ => by rw [hz]; decide) (fun h => by omega) xSb.rfl (by rw [← hz, List.drop_length]; simpa [vlb] using hB)
  · exact outer R.length _ I (Nat.le_refl _) (fun h => absurd h hz) (fun _ => pk_sub (b := 1) (by omega)) xSb.rfl (by rw [List.drop_length]; simpa [vlb] using hB)
set_option maxRecDepth 20000 in
theorem c_RF_writeName {e : Nat} {x : Ent} (hL : xL P) (hB : xBk I U) (hi : inv D) (hT : xRt I D) (hx : D[e]? = some x) (hr : (U ++ (nmj (pts D 3 (some e))).reverse).length ≤ 256) : xMet l V y_RF_writeName 2 0 0 [xq (some 250), xi (nI e)] xS0 I J P (xPv (Qb (U ++ (nmj (pts D 3 (some e))).reverse) I J P)) := by
  have h12 := hT.2.1
  have hW := hi.1
  have hel := (List.getElem?_eq_some_iff.mp hx).1
  have hdp := (hi.2.2.1 e x hx).2
  have hup := apl_up 3 (some e) hdp
  have hal := apl_len (D := D) 3 (some e)
  have hlt := apl_lt (D := D) 3 (some e)
  have hhd := apl_head (n := 2) hx
  have hpa := pts_apl (D := D) 3 (some e)
  rw [List.length_append, List.length_reverse] at hr
  -- what stands from the part k on
  have hsuf : ∀ k i, (apl D 3 (some e))[k]? = some i → (pts D 3 (some e)).drop k = ptx2 D i :: (pts D 3 (some e)).drop (k + 1) := by
    intro k i hk
    obtain ⟨hkl, hke⟩ := List.getElem?_eq_some_iff.mp hk
    have hkl' : k < (pts D 3 (some e)).length := by rw [hpa, List.length_map]; exact hkl
    rw [List.drop_eq_getElem_cons hkl']
    congr 1
    simp only [hpa, List.getElem_map, hke]
  have hlen : (pts D 3 (some e)).length = (apl D 3 (some e)).length := by rw [hpa, List.length_map]
  have hfor : ∀ k, 0 < k → k ≤ (apl D 3 (some e)).length → (((pts D 3 (some e)).drop k).flatMap (fun q => 44 :: ptb q.1 q.2)).length ≤ (nmj (pts D 3 (some e))).length := by
    intro k hk hkl
    have : pts D 3 (some e) = (pts D 3 (some e)).take k ++ (pts D 3 (some e)).drop k := (List.take_append_drop k _).symm
    conv => rhs; rw [this]
    rw [nmj_app (fun h => by have := congrArg List.length h; rw [List.length_take, List.length_nil] at this; omega), List.length_append]
    omega
  -- the parts from the last one on
  have outer : ∀ (n : Nat) (v3 v2 : Int32) (I1 : xIt), n ≤ (apl D 3 (some e)).length → (n = 0 → v3 < 0) → (0 < n → v3 = nI (n - 1)) → xSb I I1 → (n = 0 → xBk I1 (U ++ (nmj (pts D 3 (some e))).reverse)) → (0 < n → xBk I1 (U ++ (((pts D 3 (some e)).drop n).flatMap (fun q => 44 :: ptb q.1 q.2)).reverse)) → G_RF_writeName l V (Qb (U ++ (nmj (pts D 3 (some e))).reverse) I J P) 25 [(0, xq (some 250)), (1, xi (nI e)), (2, xi v2), (3, xi v3)] [] I1 J P := by
    intro n
    induction n with
    | zero =>
      intro v3 v2 I1 hn h0 hp hs1 hB0 hB1
      exact b_RF_writeName_25 hL ⟨fun _ => ⟨rfl, rfl, hs1, hB0 rfl⟩, fun z => absurd (h0 rfl) z⟩
    | succ n ih =>
      intro v3 v2 I1 hn h0 hp hs1 hB0 hB1
      have hv := hp (by omega)
      subst hv
      have hBn := hB1 (by omega)
      have hT1 := hs1.rt hT
      rw [show n + 1 - 1 = n by omega]
      obtain ⟨i, hin⟩ : ∃ i, (apl D 3 (some e))[n]? = some i := ⟨_, List.getElem?_eq_getElem (by omega)⟩
      have hil := hlt i (List.mem_of_getElem? hin)
      obtain ⟨y, hy⟩ : ∃ y, D[i]? = some y := ⟨_, List.getElem?_eq_getElem hil⟩
      have hyw := (hW i y hy).1
      have hsn := hsuf n i hin
      have hpy : ptx2 D i = (y.2.1, y.2.2.1) := by unfold ptx2; rw [hy]
      rw [hpy] at hsn
      -- one part, and the comma before it
      have hone : (((pts D 3 (some e)).drop (n + 1)).flatMap (fun q => 44 :: ptb q.1 q.2)).length + (ptb y.2.1 y.2.2.1).length + (if 0 < n then 1 else 0) ≤ (nmj (pts D 3 (some e))).length := by
        by_cases hn0 : 0 < n
        · rw [if_pos hn0]
          have := hfor n hn0 (by omega)
          rw [hsn, List.flatMap_cons] at this
          simp only [List.cons_append, List.length_cons, List.length_append] at this
          omega
        · have hz : n = 0 := by omega
          subst hz
          rw [if_neg (by omega)]
          rw [List.drop_zero] at hsn
          have hnm : nmj (pts D 3 (some e)) = ptb y.2.1 y.2.2.1 ++ ((pts D 3 (some e)).drop (0 + 1)).flatMap (fun q => 44 :: ptb q.1 q.2) := by
            conv => lhs; rw [hsn, nmj]
          rw [hnm, List.length_append]
          omega
      have hpb : (ptb y.2.1 y.2.2.1) = [ltt y.2.1, 61] ++ msc y.2.2.1 := rfl
      have hpbl : (ptb y.2.1 y.2.2.1).length = 2 + (msc y.2.2.1).length := by rw [hpb, List.length_append]; rfl
      -- the bytes from the last one on
      have bytes : ∀ (k : Nat) (v5 : Int32) (I2 : xIt), k ≤ y.2.2.1.length → (k = 0 → v5 < 0) → (0 < k → v5 = nI (k - 1)) → xSb I I2 → xBk I2 ((U ++ (((pts D 3 (some e)).drop (n + 1)).flatMap (fun q => 44 :: ptb q.1 q.2)).reverse) ++ (msc (y.2.2.1.drop k)).reverse) → G_RF_writeName l V (Qb (U ++ (nmj (pts D 3 (some e))).reverse) I J P) 67 [(0, xq (some 250)), (1, xi (nI e)), (2, xi v2), (3, xi (nI n)), (4, xi (nI i)), (5, xi v5)] [] I2 J P := by
        intro k
        induction k with
        | zero =>
          intro v5 I2 hk h0 hp hs2 hB2
          rw [List.drop_zero] at hB2
          have hre2 := (hs2.rt hT).2.2 i y hy
          refine b_RF_writeName_67 hL ⟨fun _ => ⟨_, c_RF_put (b := 61) hL hB2 (by simp only [List.length_append, List.length_reverse]; split at hone <;> omega), ?_⟩, fun z => absurd (h0 rfl) z⟩
          rintro I3 _ _ ⟨rfl, rfl, hs3, hB3⟩
          rw [ncl i, hs3 264 i (by omega) (by omega), hre2.2.2.1]
          refine ⟨pk_in i 13 (by omega), _, c_RF_letter hL (by have := hyw.2.1; omega), ?_⟩
          rintro z4 I4 _ _ ⟨rfl, rfl, rfl, rfl⟩
          refine ⟨_, c_RF_put hL hB3 (by simp only [List.length_append, List.length_reverse, List.length_cons, List.length_nil]; split at hone <;> omega), ?_⟩
          rintro I5 _ _ ⟨rfl, rfl, hs5, hB5⟩
          have hfin : U ++ (((pts D 3 (some e)).drop (n + 1)).flatMap (fun q => 44 :: ptb q.1 q.2)).reverse ++ (msc y.2.2.1).reverse ++ [61] ++ [ltt y.2.1] = U ++ (ptb y.2.1 y.2.2.1 ++ ((pts D 3 (some e)).drop (n + 1)).flatMap (fun q => 44 :: ptb q.1 q.2)).reverse := by rw [hpb]; simp
          rw [hfin] at hB5
          refine pk_le n 0 (fun z => ?_) (fun z => ⟨_, c_RF_put (b := 44) hL hB5 (by simp only [List.length_append, List.length_reverse]; rw [if_pos (by omega)] at hone; omega), ?_⟩)
          · have hz : n = 0 := by omega
            subst hz
            refine ih _ _ I5 (by omega) (fun _ => by decide) (fun h => by omega) (hs2.trans (hs3.trans hs5)) (fun _ => ?_) (fun h => by omega)
            rw [List.drop_zero] at hsn
            have : nmj (pts D 3 (some e)) = ptb y.2.1 y.2.2.1 ++ ((pts D 3 (some e)).drop (0 + 1)).flatMap (fun q => 44 :: ptb q.1 q.2) := by
              conv => lhs; rw [hsn, nmj]
            rw [this]
            exact hB5
          · rintro I6 _ _ ⟨rfl, rfl, hs6, hB6⟩
            refine ih _ _ I6 (by omega) (fun h => by omega) (fun _ => by rw [show n = (n - 1) + 1 by omega, pk_m1]; rfl) (hs2.trans (hs3.trans (hs5.trans hs6))) (fun h => by omega) (fun _ => ?_)
            rw [hsn, List.flatMap_cons]
            rw [show U ++ ((44 :: ptb (y.2.1, y.2.2.1).1 (y.2.1, y.2.2.1).2) ++ ((pts D 3 (some e)).drop (n + 1)).flatMap (fun q => 44 :: ptb q.1 q.2)).reverse = U ++ (ptb y.2.1 y.2.2.1 ++ ((pts D 3 (some e)).drop (n + 1)).flatMap (fun q => 44 :: ptb q.1 q.2)).reverse ++ [44] from by simp]
            exact hB6
        | succ k ih2 =>
          intro v5 I2 hk h0 hp hs2 hB2
          have hv := hp (by omega)
          subst hv
          have hkl : k < y.2.2.1.length := by omega
          have hre2 := (hs2.rt hT).2.2 i y hy
          have hbk : I2 266 (6 * i + k) = nI y.2.2.1[k] := hre2.2.2.2.2.2 k _ (List.getElem?_eq_getElem hkl)
          have h256 := hyw.2.2.2 y.2.2.1[k] (List.getElem_mem hkl)
          have hy6 := hyw.2.2.1
          have hdr : msc (y.2.2.1.drop k) = (if mkd y.2.2.1[k] = true then [92, y.2.2.1[k]] else [y.2.2.1[k]]) ++ msc (y.2.2.1.drop (k + 1)) := by rw [List.drop_eq_getElem_cons hkl]; rfl
          have hle : (msc (y.2.2.1.drop k)).length ≤ (msc y.2.2.1).length := by
            have : msc y.2.2.1 = msc (y.2.2.1.take k) ++ msc (y.2.2.1.drop k) := by
              conv => lhs; rw [← List.take_append_drop k y.2.2.1]
              exact msc_app _ _
            rw [this, List.length_append]
            omega
          rw [hdr, List.length_append] at hle
          refine b_RF_writeName_67 hL ⟨fun z => absurd z (nI_pos (by omega)), fun _ => ?_⟩
          rw [nI_6m, show k + 1 - 1 = k by omega, nI_add, ncl (6 * i + k), hbk]
          have hl1 : 1 ≤ (if mkd y.2.2.1[k] = true then [92, y.2.2.1[k]] else [y.2.2.1[k]]).length := by split <;> simp
          refine ⟨pk_in (6 * i + k) 78 (by omega), _, c_RF_put hL hB2 (by simp only [List.length_append, List.length_reverse]; split at hone <;> omega), ?_⟩
          rintro I3 _ _ ⟨rfl, rfl, hs3, hB3⟩
          have go1 : mkd y.2.2.1[k] = false → G_RF_writeName l V (Qb (U ++ (nmj (pts D 3 (some e))).reverse) I J P) 67 [(0, xq (some 250)), (1, xi (nI e)), (2, xi v2), (3, xi (nI n)), (4, xi (nI i)), (5, xi (nI k + -1))] [] I3 J P := by
            intro hmk
            refine ih2 _ I3 (by omega) (fun hz => by rw [hz]; decide) (fun hz => by rw [show k = (k - 1) + 1 by omega, pk_m1]; rfl) (hs2.trans hs3) ?_
            rw [hdr, hmk, if_neg (by decide), List.reverse_append, ← List.append_assoc]
            exact hB3
          have go2 : mkd y.2.2.1[k] = true → ∃ Q6 : xIt → xJt → xPt → Prop, xMet l V y_RF_put 1 0 0 [xq (some 250), xi 92] xS0 I3 J P (xPv Q6) ∧ ∀ (I6 : xIt) (J6 : xJt) (P6 : xPt), Q6 I6 J6 P6 → G_RF_writeName l V (Qb (U ++ (nmj (pts D 3 (some e))).reverse) I J P) 67 [(0, xq (some 250)), (1, xi (nI e)), (2, xi v2), (3, xi (nI n)), (4, xi (nI i)), (5, xi (nI k + -1))] [] I6 J6 P6 := by
            intro hmk
            rw [if_pos hmk] at hle
            simp only [List.length_cons, List.length_nil] at hle
            refine ⟨_, c_RF_put (b := 92) hL hB3 (by simp only [List.length_append, List.length_reverse, List.length_cons, List.length_nil]; split at hone <;> omega), ?_⟩
            rintro I6 _ _ ⟨rfl, rfl, hs6, hB6⟩
            refine ih2 _ I6 (by omega) (fun hz => by rw [hz]; decide) (fun hz => by rw [show k = (k - 1) + 1 by omega, pk_m1]; rfl) (hs2.trans (hs3.trans hs6)) ?_
            rw [hdr, if_pos hmk, List.reverse_append, ← List.append_assoc]
            rw [show [92, y.2.2.1[k]].reverse = [y.2.2.1[k]] ++ [92] from rfl, ← List.append_assoc]
            exact hB6
          refine pk_eq y.2.2.1[k] 44 (fun z => go2 (by simp [mkd, z])) (fun z => pk_eq y.2.2.1[k] 61 (fun z2 => go2 (by simp [mkd, z2])) (fun z2 => (pk_eq y.2.2.1[k] 92 (fun z3 => go2 (by simp [mkd, z3])) (fun z3 => go1 (by simp [mkd, z, z2, z3]))).symm))
      -- up to the part's entry
      have walk : ∀ (k j : Nat) (w : Nat), j + k = n → (apl D 3 (some e))[j]? = some w → G_RF_writeName l V (Qb (U ++ (nmj (pts D 3 (some e))).reverse) I J P) 35 [(0, xq (some 250)), (1, xi (nI e)), (2, xi v2), (3, xi (nI n)), (4, xi (nI w)), (5, xi (nI j))] [] I1 J P := by
        intro k
        induction k with
        | zero =>
          intro j w hj hw
          have : j = n := by omega
          subst this
          rw [hin] at hw
          cases hw
          have hre1 := hT1.2.2 i y hy
          refine b_RF_writeName_35 hL (pk_le j j (fun _ => ?_) (fun z => by omega))
          rw [ncl i, hre1.2.2.2.1]
          refine ⟨pk_in i 13 (by omega), ?_⟩
          have hBB : xBk I1 ((U ++ (((pts D 3 (some e)).drop (j + 1)).flatMap (fun q => 44 :: ptb q.1 q.2)).reverse) ++ (msc (y.2.2.1.drop y.2.2.1.length)).reverse) := by
            rw [List.drop_length]
            simpa [msc] using hBn
          by_cases hz : y.2.2.1.length = 0
          · exact bytes 0 _ I1 (by omega) (fun _ => by rw [hz]; decide) (fun h => by omega) hs1 (by rw [← hz]; exact hBB)
          · exact bytes y.2.2.1.length _ I1 (Nat.le_refl _) (fun h => absurd h hz) (fun _ => pk_sub (b := 1) (by have := hyw.2.2.1; omega)) hs1 hBB
        | succ k ih2 =>
          intro j w hj hw
          have hwl := hlt w (List.mem_of_getElem? hw)
          obtain ⟨z, hz⟩ : ∃ z, D[w]? = some z := ⟨_, List.getElem?_eq_getElem hwl⟩
          obtain ⟨w', hw'⟩ : ∃ w', (apl D 3 (some e))[j + 1]? = some w' := ⟨_, List.getElem?_eq_getElem (by omega)⟩
          have hzu := hup j w z hw hz
          rw [hw'] at hzu
          refine b_RF_writeName_35 hL (pk_le n j (fun z => by omega) (fun _ => ?_))
          rw [ncl w, (hT1.2.2 w z hz).2.1, hzu, nI_1]
          exact ⟨pk_in w 13 (by omega), ih2 (j + 1) w' (by omega) hw'⟩
      refine b_RF_writeName_25 hL ⟨fun z => absurd z (nI_pos (by omega)), fun _ => ?_⟩
      exact walk n 0 e (by omega) hhd
  -- how deep the entry stands
  have depth : ∀ (k j : Nat) (u : Option Nat), j + k = (apl D 3 (some e)).length → u = (apl D 3 (some e))[j]? → G_RF_writeName l V (Qb (U ++ (nmj (pts D 3 (some e))).reverse) I J P) 4 [(0, xq (some 250)), (1, xi (nI e)), (2, xi (nI j)), (3, xi (upI u))] [] I J P := by
    intro k
    induction k with
    | zero =>
      intro j u hj hu
      rw [List.getElem?_eq_none (by omega)] at hu
      subst hu
      have hpos : 0 < (apl D 3 (some e)).length := (List.getElem?_eq_some_iff.mp hhd).1
      refine b_RF_writeName_4 hL ⟨fun _ => ?_, fun z => absurd (by decide) z⟩
      rw [show nI j - 1 = nI (j - 1) from pk_sub (b := 1) (by omega)]
      refine outer j _ _ I (by omega) (fun h => by omega) (fun _ => rfl) xSb.rfl (fun h => by omega) (fun _ => ?_)
      rw [List.drop_eq_nil_of_le (by omega)]
      simpa using hB
    | succ k ih =>
      intro j u hj hu
      have hjl : j < (apl D 3 (some e)).length := by omega
      obtain ⟨w, hw⟩ : ∃ w, (apl D 3 (some e))[j]? = some w := ⟨_, List.getElem?_eq_getElem hjl⟩
      rw [hw] at hu
      subst hu
      have hwl := hlt w (List.mem_of_getElem? hw)
      obtain ⟨z, hz⟩ : ∃ z, D[w]? = some z := ⟨_, List.getElem?_eq_getElem hwl⟩
      refine b_RF_writeName_4 hL ⟨fun zz => absurd zz (nI_pos (n := w) (by omega)), fun _ => ?_⟩
      rw [show upI (some w) = nI w from rfl, ncl w, (hT.2.2 w z hz).2.1, nI_1]
      exact ⟨pk_in w 13 (by omega), ih (j + 1) z.2.2.2 (by omega) (hup j w z hw hz)⟩
  exact e_RF_writeName (b_RF_writeName_0 hL (depth (apl D 3 (some e)).length 0 (some e) (by omega) hhd.symm))
end XRC

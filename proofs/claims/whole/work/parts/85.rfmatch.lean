/-! the reference: an entry goes out; a filter's leaf -/
section XRD
variable {l : Launch} {V : xV} {I : xIt} {J : xJt} {P : xPt} {D : List Ent} {m : Nat → Nat} {e : Nat}
def rwf (A : Nat → List Vl) (t : Nat) : List Nat := ((List.range 5).drop t).flatMap (rwt A)
theorem rwf_0 (A : Nat → List Vl) : rwf A 0 = rwb A 5 := by unfold rwf rwb; rw [List.drop_zero]
theorem rwf_step (A : Nat → List Vl) {t : Nat} (ht : t < 5) : rwf A t = rwt A t ++ rwf A (t + 1) := by
  unfold rwf
  rw [List.drop_eq_getElem_cons (by simp; omega), List.flatMap_cons]
  simp
theorem rwf_le (A : Nat → List Vl) : ∀ t, t ≤ 5 → (rwf A t).length ≤ (rwb A 5).length := by
  intro t
  induction t with
  | zero => intro _; rw [rwf_0]; exact Nat.le_refl _
  | succ t ih =>
    intro ht
    have := ih (by omega)
    rw [rwf_step A (by omega), List.length_append] at this
    omega
set_option maxRecDepth 20000 in
theorem c_RF_writeEntry {d s : Nat} {x : Ent} {W : List Nat} (hL : xL P) (hi : inv D) (hT : xRt I D) (hx : D[s]? = some x) (hW : xRo I W) (hd : d < 32768) (hid : I 250 8 = nI d) (hw : (W ++ enb D d s x).length ≤ 2048) : xMet l V y_RF_writeEntry 4 0 0 [xq (some 250), xi (nI s)] xS0 I J P (xPv (fun I' J' P' => J = J' ∧ P = P' ∧ xSs I I' ∧ xRo I' (W ++ enb D d s x))) := by
  have h12 := hT.2.1
  have hsl := (List.getElem?_eq_some_iff.mp hx).1
  have hwx := (hi.1 s x hx).1
  have h88 := rwb_88 hwx (hi.2.2.1 s x hx).1
  have hpo := pts_ok hi.1 3 (some s)
  have hn44 := nmj_len hpo.1 hpo.2
  have hen := enb_146 (d := d) (e := s) hi.1 hwx (hi.2.2.1 s x hx).1
  have e1 := enc_len 4 (nmj (pts D 3 (some s)))
  rw [if_pos (by omega)] at e1
  have e2 := enc_len 48 (rwb x.1 5)
  rw [if_pos (by omega)] at e2
  have e3' := enc_len 100 (enc 4 (nmj (pts D 3 (some s))) ++ enc 48 (rwb x.1 5))
  have e3 : (enc 100 (enc 4 (nmj (pts D 3 (some s))) ++ enc 48 (rwb x.1 5))).length ≤ 139 := by rw [e3', List.length_append]; split <;> omega
  have loop : ∀ (n : Nat) (v2 : Int32) (I1 : xIt), n ≤ 5 → (n = 0 → v2 < 0) → (0 < n → v2 = nI (n - 1)) → xSb I I1 → xBk I1 (rwf x.1 n).reverse → G_RF_writeEntry l V (fun I' J' P' => J = J' ∧ P = P' ∧ xSs I I' ∧ xRo I' (W ++ enb D d s x)) 7 [(0, xq (some 250)), (1, xi (nI s)), (2, xi v2)] [] I1 J P := by
    intro n
    induction n with
    | zero =>
      intro v2 I1 hn h0 hp hs1 hB1
      rw [rwf_0] at hB1
      have hB1' : xBk I1 ([] ++ (rwb x.1 5).reverse) := hB1
      refine b_RF_writeEntry_7 hL ⟨fun _ => ⟨_, c_RF_close (g := 48) (U := []) hL hB1' (by rw [List.reverse_reverse, List.nil_append, List.length_reverse]; omega), ?_⟩, fun z => absurd (h0 rfl) z⟩
      rintro I2 _ _ ⟨rfl, rfl, hs2, hB2⟩
      rw [List.reverse_reverse, List.nil_append] at hB2
      have hs02 := hs1.trans hs2
      refine ⟨_, c_RF_writeName hL hB2 hi (hs02.rt hT) hx (by simp only [List.length_append, List.length_reverse]; omega), ?_⟩
      rintro I3 _ _ ⟨rfl, rfl, hs3, hB3⟩
      rw [hB2.1]
      refine ⟨_, c_RF_close (g := 4) hL hB3 (by rw [List.reverse_reverse]; simp only [List.length_append, List.length_reverse]; omega), ?_⟩
      rintro I4 _ _ ⟨rfl, rfl, hs4, hB4⟩
      rw [List.reverse_reverse, ← List.reverse_append] at hB4
      have hB4' : xBk I4 ([] ++ (enc 4 (nmj (pts D 3 (some s))) ++ enc 48 (rwb x.1 5)).reverse) := hB4
      refine ⟨_, c_RF_close (g := 100) (U := []) hL hB4' (by rw [List.reverse_reverse, List.nil_append, List.length_reverse]; omega), ?_⟩
      rintro I5 _ _ ⟨rfl, rfl, hs5, hB5⟩
      rw [List.reverse_reverse, List.nil_append] at hB5
      have hs05 := hs02.trans (hs3.trans (hs4.trans hs5))
      refine ⟨_, c_RF_ship hL hB5 (hs05.ro hW) hd ((hs05 250 8 (by omega) (by omega)).trans hid) (by show (enb D d s x).length ≤ 256; omega) hw, ?_⟩
      rintro I6 _ _ ⟨rfl, rfl, hs6, hO6, -⟩
      exact ⟨rfl, rfl, fun a j h1 h2 h3 => (hs6 a j h1 h2 h3).trans (hs05 a j (by omega) h3), hO6⟩
    | succ n ih =>
      intro v2 I1 hn h0 hp hs1 hB1
      have hv := hp (by omega)
      subst hv
      have hst := rwf_step x.1 (show n < 5 by omega)
      have hle := rwf_le x.1 n (by omega)
      have hR1 := ((hs1.rt hT).2.2 s x hx).1 n (by omega)
      have hR3 := hR1.1
      rw [show n + 1 - 1 = n by omega]
      refine b_RF_writeEntry_7 hL ⟨fun z => absurd z (nI_pos (by omega)), fun _ => ?_⟩
      rw [nI_5m, nI_add, ncl (5 * s + n), hR1.2.1]
      refine ⟨pk_in (5 * s + n) 65 (by omega), pk_le (x.1 n).length 0 (fun z => ?_) (fun z => ?_)⟩
      · refine ih _ I1 (by omega) (fun hz => by rw [hz]; decide) (fun hz => by rw [show n = (n - 1) + 1 by omega, pk_m1]; rfl) hs1 ?_
        rw [hst, rwt, if_neg (by omega), List.nil_append]
        exact hB1
      · have hrt : rwt x.1 n = atb n (x.1 n) := by rw [rwt, if_pos (by omega)]
        rw [hrt] at hst
        rw [hst, List.length_append] at hle
        refine ⟨_, c_RF_writeAttribute hL hB1 (by omega) (by omega) hR1 (by simp only [List.length_append, List.length_reverse]; omega), ?_⟩
        rintro I2 _ _ ⟨rfl, rfl, hs2, hB2⟩
        refine ih _ I2 (by omega) (fun hz => by rw [hz]; decide) (fun hz => by rw [show n = (n - 1) + 1 by omega, pk_m1]; rfl) (hs1.trans hs2) ?_
        rw [hst, List.reverse_append]
        exact hB2
  refine e_RF_writeEntry (b_RF_writeEntry_0 hL (loop 5 4 _ (Nat.le_refl _) (fun h => by omega) (fun _ => rfl) (fun a j h1 h2 => xu_other h1) (by rw [show rwf x.1 5 = [] from rfl]; exact ⟨xu_at, by simp, fun i b hi => by simp at hi⟩)))
theorem nm_pos {L : List Nat} (h : L.any (fun c => c == 45) = false) : nm L = nmv L := by simp [nm, nms, h]
theorem nm_neg {L : List Nat} (h : L.any (fun c => c == 45) = true) : nm L = -nmv L := by
  unfold nm nms
  rw [if_pos h, Int32.neg_mul, Int32.one_mul]
set_option maxRecDepth 20000 in
theorem c_RF_numberOf {f : Bool} {p : Nat} {L : List Nat} (hL : xL P) (hb : xBy I (if f then 255 else 262) p L) (h8 : by8 L) (hp : p + L.length ≤ (if f then 40 else 1170)) (h6 : L.length ≤ 6) : xMet l V y_RF_numberOf 1 0 0 [xq (some 250), xi (if f then 1 else 0), xi (nI p), xi (nI L.length)] xS0 I J P (xPi (fun r I' J' P' => I = I' ∧ J = J' ∧ P = P' ∧ r = nm L)) := by
  have hp2 : p + L.length ≤ 1170 := by split at hp <;> omega
  have loop : ∀ (n j : Nat), j + n = L.length → G_RF_numberOf l V (fun r I' J' P' => I = I' ∧ J = J' ∧ P = P' ∧ r = nm L) 9 [(0, xq (some 250)), (1, xi (if f then 1 else 0)), (2, xi (nI p)), (3, xi (nI L.length)), (4, xi (nmv (L.take j))), (5, xi (if (L.take j).any (fun c => c == 45) = true then 1 else 0)), (6, xi (nI j))] [] I J P := by
    intro n
    induction n with
    | zero =>
      intro j hj
      rw [List.take_of_length_le (by omega)]
      refine b_RF_numberOf_9 hL (pk_le L.length j (fun _ => ?_) (fun z => by omega))
      cases hm : L.any (fun c => c == 45) with
      | false => exact ⟨fun _ => ⟨rfl, rfl, rfl, (nm_pos hm).symm⟩, fun z => absurd rfl z⟩
      | true => exact ⟨fun z => absurd z (by decide), fun _ => ⟨rfl, rfl, rfl, (nm_neg hm).symm⟩⟩
    | succ n ih =>
      intro j hj
      have hjl : j < L.length := by omega
      have hgj := List.getElem?_eq_getElem hjl
      have h256 := h8 L[j] (List.getElem_mem hjl)
      have htk : L.take (j + 1) = L.take j ++ [L[j]] := by rw [List.take_succ, hgj]; rfl
      have hnv := nmv_app (L.take j) L[j]
      have han : (L.take (j + 1)).any (fun c => c == 45) = ((L.take j).any (fun c => c == 45) || (L[j] == 45)) := by rw [htk, List.any_append]; simp
      have next := ih (j + 1) (by omega)
      rw [htk, hnv, ← htk, han] at next
      have t59 : ∀ (v5 u0 : Int32), u0 = (if ((L.take j).any (fun c => c == 45) || (L[j] == 45)) = true then 1 else 0) → G_RF_numberOf l V (fun r I' J' P' => I = I' ∧ J = J' ∧ P = P' ∧ r = nm L) 59 [(0, xq (some 250)), (1, xi (if f then 1 else 0)), (2, xi (nI p)), (3, xi (nI L.length)), (4, xi (nmv (L.take j))), (5, xi v5), (6, xi (nI j)), (7, xi (nI L[j]))] [xi u0] I J P := by
        rintro v5 _ rfl
        refine b_RF_numberOf_59 hL ?_
        rw [nI_1]
        refine (pk_eq L[j] 45 (fun z => ?_) (fun z => ?_)).symm
        · rw [if_pos z] at next; exact next
        · rw [if_neg z] at next; exact next
      refine b_RF_numberOf_9 hL (pk_le L.length j (fun z => by omega) (fun _ => ?_))
      have hbj := hb j _ hgj
      cases hm : (L.take j).any (fun c => c == 45) with
      | false =>
        rw [hm] at t59
        cases f with
        | false =>
          refine ⟨fun _ => ?_, fun z => absurd rfl z⟩
          have hbj : I 262 (p + j) = nI L[j] := hbj
          rw [nI_add, ncl (p + j), hbj]
          refine ⟨pk_in (p + j) 1170 (by omega), fun z => absurd rfl z, fun _ => (pk_eq L[j] 45 (fun z => t59 _ _ (by simp [z])) (fun z => t59 _ _ (by simp [z]))).symm⟩
        | true =>
          refine ⟨fun z => absurd z (by decide), fun _ => ?_⟩
          have hbj : I 255 (p + j) = nI L[j] := hbj
          have hp : p + L.length ≤ 40 := hp
          rw [nI_add, ncl (p + j), hbj]
          refine ⟨pk_in (p + j) 40 (by omega), fun z => absurd rfl z, fun _ => (pk_eq L[j] 45 (fun z => t59 _ _ (by simp [z])) (fun z => t59 _ _ (by simp [z]))).symm⟩
      | true =>
        rw [hm] at t59
        cases f with
        | false =>
          refine ⟨fun _ => ?_, fun z => absurd rfl z⟩
          have hbj : I 262 (p + j) = nI L[j] := hbj
          rw [nI_add, ncl (p + j), hbj]
          exact ⟨pk_in (p + j) 1170 (by omega), fun _ => t59 _ _ (by simp), fun z => absurd z (by decide)⟩
        | true =>
          refine ⟨fun z => absurd z (by decide), fun _ => ?_⟩
          have hbj : I 255 (p + j) = nI L[j] := hbj
          have hp : p + L.length ≤ 40 := hp
          rw [nI_add, ncl (p + j), hbj]
          exact ⟨pk_in (p + j) 40 (by omega), fun _ => t59 _ _ (by simp), fun z => absurd z (by decide)⟩
  exact e_RF_numberOf (b_RF_numberOf_0 hL (loop L.length 0 (by omega)))
/-- nothing but what a leaf's judging may change changed -/
def xSlf (I I' : xIt) : Prop := ∀ a j, ¬ (a = 250 ∧ ((3 ≤ j ∧ j ≤ 6) ∨ j = 14 ∨ j = 15 ∨ j = 21)) → a ≠ 254 → ¬ (a = 255 ∧ 24 ≤ j) → I' a j = I a j
theorem xSlf.rfl {I : xIt} : xSlf I I := fun _ _ _ _ _ => Eq.refl _
theorem xSlf.trans {I I1 I2 : xIt} (h : xSlf I I1) (h2 : xSlf I1 I2) : xSlf I I2 := fun a j h3 h4 h5 => (h2 a j h3 h4 h5).trans (h a j h3 h4 h5)
theorem xSlf.sm {I I1 : xIt} {ks : List Nat} (h : xsm (dF ks []) I I1) (hk : ks.all (fun k => [3, 4, 5, 6, 14, 15].contains k) = true) : xSlf I I1 := fun a j h1 h2 h3 => (h.F (as' := []) hk (Eq.refl _)) a j (dF_no (by intro h; simp; omega) (by simp))
theorem xSlf.rt {I1 : xIt} (h : xSlf I I1) (hT : xRt I D) : xRt I1 D := hT.keep' (h 250 27 (by omega) (by omega) (by omega)) (fun a j h1 h2 => h a j (by omega) (by omega) (by omega))
theorem xSlf.ms {I1 : xIt} (h : xSlf I I1) (hm : xMs I 251 m e) : xMs I1 251 m e := fun j hj => ⟨(h 251 j (by omega) (by omega) (by omega)).trans (hm j hj).1, (hm j hj).2⟩
set_option maxRecDepth 20000 in
theorem c_RF_leafValue {s k f u : Nat} {x : Ent} (hL : xL P) (hm : xMs I 251 m e) (he : e ≤ 153) (hT : xRt I D) (hx : D[s]? = some x) (hwx : wfe x) (hk : k < 256) (hf : f ≤ u ∧ u ≤ e) (hlf : lfb m k f u = true) : xMet l V y_RF_leafValue 4 0 0 [xq (some 250), xi (nI s), xi (nI k), xi (nI f), xi (nI u)] xS0 I J P (xPi (fun r I' J' P' => J = J' ∧ P = P' ∧ xSlf I I' ∧ r = nI (lv m x.1 (k, 0, f, u)))) := by
  have h12 := hT.2.1
  have hsl := (List.getElem?_eq_some_iff.mp hx).1
  have hb8 : ∀ j, j < e → m j < 256 := fun j hj => (hm j hj).2
  refine e_RF_leafValue (b_RF_leafValue_0 hL ?_)
  unfold lfb at hlf
  refine (pk_eq k 135 (fun z => ?_) (fun z => ?_)).symm
  · refine ⟨_, c_RF_typeAt (q := (f, u)) hL hm (by omega) hf, ?_⟩
    rintro z1 I1 _ _ ⟨rfl, rfl, rfl, rfl⟩
    have hlt : lty m (k, 0, f, u) = tyx m (f, u) := by simp [lty, tx, z]
    cases hty : tyx m (f, u) with
    | none => exact ⟨fun z => absurd z (by decide), fun _ => ⟨rfl, rfl, xSlf.rfl, by rw [lv, hlt, hty]; rfl⟩⟩
    | some t =>
      have ht := tyx_5 hty
      have hR := rows_re hT hx t ht
      have hR3 := hR.1
      have hlv : lv m x.1 (k, 0, f, u) = if 0 < (x.1 t).length then 2 else 0 := by rw [lv, hlt, hty]; simp only [if_pos z]
      rw [show tyo (some t) = nI t from rfl, nI_5m, nI_add, ncl (5 * s + t), hR.2.1, hlv]
      exact ⟨fun _ => ⟨pk_in (5 * s + t) 65 (by omega), pk_le (x.1 t).length 0 (fun z => ⟨rfl, rfl, xSlf.rfl, by rw [if_neg (by omega)]; rfl⟩) (fun z => ⟨rfl, rfl, xSlf.rfl, by rw [if_pos (by omega)]; rfl⟩)⟩, fun z => absurd (nI_pos' (n := t) (by omega)) z⟩
  · rw [if_neg z] at hlf
    have hk3 : k = 163 ∨ k = 165 ∨ k = 166 := Classical.byContradiction fun h => by rw [if_neg h] at hlf; cases hlf
    rw [if_pos hk3] at hlf
    cases hB : tk m 4 30 f u with
    | none => rw [hB] at hlf; cases hlf
    | some B =>
      rw [hB] at hlf
      simp only at hlf
      cases hC : tk m 4 30 B.2 u with
      | none => rw [hC] at hlf; cases hlf
      | some C =>
        rw [hC] at hlf
        have b1 := tk_bd hB
        have b2 := tk_bd hC
        have htx : tx m (k, 0, f, u) = [B, C] := by unfold tx; simp only; rw [if_neg z, if_pos hk3, hB]; simp only [hC]
        have hlt : lty m (k, 0, f, u) = tyx m B := by unfold lty; rw [htx]
        refine ⟨_, c_RF_textB (p := f) (e := u) hL (fun j hj => ⟨(xu_other (by omega)).trans (hm j (by omega)).1, (hm j (by omega)).2⟩) (by omega) (by omega) xu_at, ?_⟩
        rintro z1 I1 _ _ ⟨rfl, rfl, hs1, hm1⟩
        rw [hB] at hm1
        obtain ⟨rfl, h14, h15, h6⟩ := hm1
        have hS1 : xSlf I I1 := fun a j h1 h2 h3 => ((xSlf.sm hs1 (by decide)) a j h1 h2 h3).trans (xu_other (by omega))
        refine ⟨fun z => absurd z (by decide), fun _ => ?_⟩
        rw [h14, h15]
        refine ⟨_, c_RF_typeAt (q := B) hL (hS1.ms hm) (by omega) (by omega), ?_⟩
        rintro z2 I2 _ _ ⟨rfl, rfl, rfl, rfl⟩
        cases hty : tyx m B with
        | none => exact b_RF_leafValue_75 hL ⟨fun _ => ⟨rfl, rfl, hS1, by rw [lv, hlt, hty]; rfl⟩, fun z => absurd (by decide) z⟩
        | some t =>
          have ht := tyx_5 hty
          have hlv : lv m x.1 (k, 0, f, u) = match lpl m (k, 0, f, u) with
            | none => 1
            | some p => if k = 163 then (if hs (x.1 t) p = true then 2 else 0) else if t = 3 then ordv k p (x.1 3) else 1 := by
            rw [lv, hlt, hty]
            simp only [if_neg z]
            rfl
          have hlp : lpl m (k, 0, f, u) = (val m t C).map (fun v => v.2) := by unfold lpl; rw [htx]; simp only [hlt, hty, Option.bind_some]
          rw [show tyo (some t) = nI t from rfl]
          have t97 : (k = 163 ∨ t = 3) → G_RF_leafValue l V (fun r I' J' P' => J = J' ∧ P = P' ∧ xSlf I I' ∧ r = nI (lv m x.1 (k, 0, f, u))) 97 [(0, xq (some 250)), (1, xi (nI s)), (2, xi (nI k)), (3, xi (nI f)), (4, xi (nI u)), (5, xi (nI t))] [] I1 J P := by
            intro hkt
            refine b_RF_leafValue_97 hL ⟨_, c_RF_take (w := 4) (most := 30) (p := B.2) (e := u) hL ((hS1.ms hm).le (by omega)) (by omega) (by omega) (by omega) (by omega) h6, ?_⟩
            rintro z3 I3 _ _ ⟨rfl, rfl, hs3, hm3⟩
            rw [hC] at hm3
            obtain ⟨rfl, h34, h35, -⟩ := hm3
            have hS3 : xSlf I I3 := hS1.trans (xSlf.sm (hs3.K (ks := [3, 4, 5, 6]) (as := []) (by decide)) (by decide))
            rw [h34, h35]
            refine ⟨_, c_RF_load hL (hS3.ms hm) (by omega) (by omega) (by omega), ?_⟩
            rintro I4 _ _ ⟨rfl, rfl, hs4, hg4⟩
            have hS4 : xSlf I I4 := hS3.trans (fun a j h1 h2 h3 => hs4 a j (by omega) h2)
            have hsb : by8 (sub m C.1 C.2) := sub_by8 (fun j hj => hb8 j (by omega))
            refine ⟨fun z => absurd z (by decide), fun _ => ⟨_, c_RF_formOf (k := 3) hL hg4 (by rw [sub_len]; omega) hsb ht (by omega), ?_⟩⟩
            rintro z5 I5 _ _ ⟨rfl, rfl, hs5, rfl, hf5⟩
            have hS5 : xSlf I I5 := hS4.trans (fun a j h1 h2 h3 => hs5 a j (by omega))
            have hT5 := hS5.rt hT
            cases hfo : fo t (sub m C.1 C.2) with
            | none =>
              have hval : val m t C = none := by rw [val_fo, hfo]; rfl
              rw [hval] at hlp
              exact b_RF_leafValue_136 hL ⟨fun z => absurd z (by decide), fun _ => ⟨rfl, rfl, hS5, by rw [hlv, hlp]; rfl⟩⟩
            | some p =>
              have hval : val m t C = some (sub m C.1 C.2, p) := by rw [val_fo, hfo]; rfl
              have hp6 := fo_ok hsb hfo
              rw [hval] at hlp
              have hlv2 : lv m x.1 (k, 0, f, u) = if k = 163 then (if hs (x.1 t) p = true then 2 else 0) else if t = 3 then ordv k p (x.1 3) else 1 := by rw [hlv, hlp]; rfl
              have hf5p := hf5 p hfo
              rw [show oln (some p) = nI p.length from rfl]
              refine b_RF_leafValue_136 hL ⟨fun _ => (pk_eq k 163 (fun zk => ?_) (fun zk => ?_)).symm, fun z => absurd (nI_pos' (n := p.length) (by omega)) z⟩
              · have hR5 := rows_re hT5 hx t ht
                have hR53 := hR5.1
                refine ⟨_, c_RF_placeOf (k := 3) hL hR5 hf5p (by omega) ht (by omega) hp6.1 hp6.2.1 (fun v hv => (vk_pl ((hwx.1 t ht).1 v hv)).2), ?_⟩
                rintro z6 I6 _ _ ⟨rfl, rfl, rfl, rfl⟩
                rw [hlv2, if_pos zk]
                cases hpl : plc (x.1 t) p with
                | none =>
                  have hh : ¬ hs (x.1 t) p = true := fun h => by obtain ⟨q, hq⟩ := plc_some.mp h; rw [hpl] at hq; cases hq
                  exact ⟨fun _ => ⟨rfl, rfl, hS5, by rw [if_neg hh]; rfl⟩, fun z => absurd (by decide) z⟩
                | some q =>
                  have hh : hs (x.1 t) p = true := plc_some.mpr ⟨q, hpl⟩
                  have hq3 := plc_lt hpl
                  exact ⟨fun z => absurd z (nI_pos (n := q) (by omega)), fun _ => ⟨rfl, rfl, hS5, by rw [if_pos hh]; rfl⟩⟩
              · have ht3 : t = 3 := by omega
                subst ht3
                rw [if_neg zk, if_pos rfl] at hlv2
                have hR5 := rows_re hT5 hx 3 (by omega)
                have hl1 : (x.1 3).length ≤ 1 := (hwx.1 3 (by omega)).2.1
                rw [nI_5m, show (3 : Int32) = nI 3 from rfl, nI_add, ncl (5 * s + 3), hR5.2.1, hlv2]
                refine ⟨pk_in (5 * s + 3) 65 (by omega), (pk_eq (x.1 3).length 0 (fun z0 => ⟨rfl, rfl, hS5, ?_⟩) (fun z0 => ⟨_, c_RF_numberOf (f := true) (p := 24) hL hf5p hp6.2.1 (by show 24 + p.length ≤ 40; omega) hp6.1, ?_⟩)).symm⟩
                · have hnil : x.1 3 = [] := List.eq_nil_of_length_eq_zero z0
                  unfold ordv
                  rw [hnil]
                  rfl
                · rintro z6 I6 _ _ ⟨rfl, rfl, rfl, rfl⟩
                  obtain ⟨v, hv⟩ := List.length_eq_one_iff.mp (show (x.1 3).length = 1 by omega)
                  have hvv := hR5.2.2 0 v (by rw [hv]; rfl)
                  rw [show 3 * (5 * s + 3) + 0 = 15 * s + 9 by omega] at hvv
                  have hvk := (hwx.1 3 (by omega)).1 v (by rw [hv]; simp)
                  rw [nI_15m, show (9 : Int32) = nI 9 from rfl, nI_add, ncl (15 * s + 9), hvv.2.2.1, nI_6m]
                  refine ⟨pk_in (15 * s + 9) 195 (by omega), _, c_RF_numberOf (f := false) (p := 6 * (15 * s + 9)) hL hvv.2.2.2.2 (vk_pl hvk).2 (by show 6 * (15 * s + 9) + v.2.length ≤ 1170; have := hvv.1.2; omega) hvv.1.2, ?_⟩
                  rintro z7 I7 _ _ ⟨rfl, rfl, rfl, rfl⟩
                  have hov : ordv k p (x.1 3) = if (if k = 165 then !decide (nm v.2 < nm p) else !decide (nm p < nm v.2)) = true then 2 else 0 := by
                    unfold ordv
                    rw [hv]
                    simp only [List.any_cons, List.any_nil, Bool.or_false]
                  rw [hov]
                  refine (pk_eq k 165 (fun z5 => ?_) (fun z5 => ?_)).symm
                  · rw [if_pos z5]
                    exact ⟨fun h => ⟨rfl, rfl, hS5, by simp [h]; rfl⟩, fun h => ⟨rfl, rfl, hS5, by simp [h]; rfl⟩⟩
                  · rw [if_neg z5]
                    exact ⟨fun h => ⟨rfl, rfl, hS5, by simp [h]; rfl⟩, fun h => ⟨rfl, rfl, hS5, by simp [h]; rfl⟩⟩
          refine b_RF_leafValue_75 hL ⟨fun z => absurd z (nI_pos (n := t) (by omega)), fun _ => pk_eq k 163 (fun zk => t97 (Or.inl zk)) (fun zk => pk_eq t 3 (fun zt => t97 (Or.inr zt)) (fun zt => ⟨rfl, rfl, hS1, ?_⟩))⟩
          rw [hlv, hlp]
          cases val m t C with
          | none => rfl
          | some v => simp only [Option.map_some, if_neg zk, if_neg zt]; rfl
end XRD

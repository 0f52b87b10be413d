/-! the reference: filters by a stack, search -/
def jn2 (g a v : Nat) : Nat := if g = 160 then min a v else max a v
theorem jn2_2 {g a v : Nat} (ha : a ≤ 2) (hv : v ≤ 2) : jn2 g a v ≤ 2 := by unfold jn2; split <;> omega
theorem fold_2 {g : Nat} : ∀ {vs : List Nat} {a : Nat}, a ≤ 2 → (∀ v ∈ vs, v ≤ 2) → vs.foldl (jn2 g) a ≤ 2 := by
  intro vs
  induction vs with
  | nil => intro a ha _; exact ha
  | cons v vs ih => intro a ha hv; exact ih (jn2_2 ha (hv v (by simp))) (fun w hw => hv w (by simp [hw]))
theorem nod_fold {g : Nat} {vs : List Nat} (hg : 160 ≤ g ∧ g ≤ 162) : nod g vs = if g = 162 then 2 - vs.foldl (jn2 g) (if g = 160 then 2 else 0) else vs.foldl (jn2 g) (if g = 160 then 2 else 0) := by
  unfold nod
  by_cases h0 : g = 160
  · subst h0
    rw [if_pos rfl, if_neg (by decide), if_pos rfl, show jn2 160 = min from by funext a v; simp [jn2]]
  · rw [if_neg h0, if_neg h0]
    by_cases h1 : g = 161
    · subst h1
      rw [if_pos rfl, if_neg (by decide), show jn2 161 = max from by funext a v; simp [jn2]]
    · have h2 : g = 162 := by omega
      subst h2
      rw [if_neg (by decide), if_pos rfl, show jn2 162 = max from by funext a v; simp [jn2]]
theorem cvs_2 {m : Nat → Nat} {A : Nat → List Vl} : ∀ (k p e : Nat), ∀ v ∈ cvs m A k p e, v ≤ 2 := by
  intro k
  induction k with
  | zero => intro p e v hv; cases hv
  | succ k ih =>
    intro p e v hv
    rw [cvs] at hv
    by_cases hp : p = e
    · rw [if_pos hp] at hv; cases hv
    rw [if_neg hp] at hv
    cases hx : tl m p e with
    | none => rw [hx] at hv; cases hv
    | some x =>
      rw [hx] at hv
      rcases List.mem_cons.mp hv with rfl | hv
      · by_cases hh : 160 ≤ x.1 ∧ x.1 ≤ 162
        · rw [if_pos hh, nod_fold hh]
          have := fold_2 (g := x.1) (vs := cvs m A k x.2.1 x.2.2) (a := if x.1 = 160 then 2 else 0) (by split <;> omega) (ih _ _)
          split <;> omega
        · rw [if_neg hh]; exact lv_2
      · exact ih _ _ v hv
section XRS
variable {l : Launch} {V : xV} {I : xIt} {J : xJt} {P : xPt} {D : List Ent} {m : Nat → Nat} {e : Nat}
set_option maxRecDepth 20000 in
theorem c_RF_into {top g a v : Nat} (hL : xL P) (ht : top < 8) (hg : I 268 top = nI g) (hg2 : g < 256) (ha : I 270 top = nI a) (ha2 : a ≤ 2) (hv2 : v ≤ 2) : xMet l V y_RF_into 1 0 0 [xq (some 250), xi (nI top), xi (nI v)] xS0 I J P (xPv (fun I' J' P' => J = J' ∧ P = P' ∧ I' = xu I 270 top (nI (jn2 g a v)))) := by
  have t17 : ∀ (lt : Bool), lt = decide (v < a) → G_RF_into l V (fun I' J' P' => J = J' ∧ P = P' ∧ I' = xu I 270 top (nI (jn2 g a v))) 17 [(0, xq (some 250)), (1, xi (nI top)), (2, xi (nI v)), (3, xi (nI a))] [xi (if lt then 1 else 0)] I J P := by
    intro lt hlt
    refine b_RF_into_17 hL ⟨pk_in top 8 ht, ?_⟩
    rw [ncl top, hg]
    refine (pk_eq g 160 (fun z => ?_) (fun z => ?_)).symm
    · cases lt with
      | false =>
        have : ¬ v < a := by simpa using hlt.symm
        exact ⟨fun _ => ⟨pk_in top 8 ht, rfl, rfl, by rw [jn2, if_pos z, Nat.min_eq_left (by omega)]⟩, fun z => absurd z (by decide)⟩
      | true =>
        have : v < a := by simpa using hlt.symm
        exact ⟨fun z => absurd rfl z, fun _ => ⟨pk_in top 8 ht, rfl, rfl, by rw [jn2, if_pos z, Nat.min_eq_right (by omega)]⟩⟩
    · cases lt with
      | false =>
        have : ¬ v < a := by simpa using hlt.symm
        exact ⟨fun z => absurd rfl z, fun _ => ⟨pk_in top 8 ht, rfl, rfl, by rw [jn2, if_neg z, Nat.max_eq_right (by omega)]⟩⟩
      | true =>
        have : v < a := by simpa using hlt.symm
        exact ⟨fun _ => ⟨pk_in top 8 ht, rfl, rfl, by rw [jn2, if_neg z, Nat.max_eq_left (by omega)]⟩, fun z => absurd z (by decide)⟩
  refine e_RF_into (b_RF_into_0 hL ⟨pk_in top 8 ht, ?_⟩)
  rw [ncl top, ha]
  exact pk_le a v (fun z => t17 false (by symm; simp; omega)) (fun z => t17 true (by symm; simp; omega))
/-- nothing but what the walk over the filters may change changed -/
def xSw (I I' : xIt) : Prop := ∀ a j, ¬ (a = 250 ∧ ((3 ≤ j ∧ j ≤ 6) ∨ j = 14 ∨ j = 15 ∨ j = 21)) → a ≠ 254 → ¬ (a = 255 ∧ 24 ≤ j) → a ≠ 267 → a ≠ 268 → a ≠ 270 → I' a j = I a j
theorem xSw.rfl {I : xIt} : xSw I I := fun _ _ _ _ _ _ _ _ => Eq.refl _
theorem xSw.trans {I I1 I2 : xIt} (h : xSw I I1) (h2 : xSw I1 I2) : xSw I I2 := fun a j h3 h4 h5 h6 h7 h8 => (h2 a j h3 h4 h5 h6 h7 h8).trans (h a j h3 h4 h5 h6 h7 h8)
theorem xSw.rt {I1 : xIt} (h : xSw I I1) (hT : xRt I D) : xRt I1 D := hT.keep' (h 250 27 (by omega) (by omega) (by omega) (by omega) (by omega) (by omega)) (fun a j h1 h2 => h a j (by omega) (by omega) (by omega) (by omega) (by omega) (by omega))
theorem xSw.ms {I1 : xIt} (h : xSw I I1) (hm : xMs I 251 m e) : xMs I1 251 m e := fun j hj => ⟨(h 251 j (by omega) (by omega) (by omega) (by omega) (by omega) (by omega)).trans (hm j hj).1, (hm j hj).2⟩
/-- the stack up to top is as it was, but for the value at top -/
def xSt (top : Nat) (I I' : xIt) : Prop := (∀ j, j ≤ top → I' 267 j = I 267 j ∧ I' 268 j = I 268 j) ∧ ∀ j, j < top → I' 270 j = I 270 j
set_option maxRecDepth 20000 in
theorem RF_walk {s : Nat} {x : Ent} {I0 : xIt} {Q : Int32 → xIt → xJt → xPt → Prop} (hL : xL P) (hm : xMs I0 251 m e) (he : e ≤ 153) (hT : xRt I0 D) (hx : D[s]? = some x) (hwx : wfe x) : ∀ (k p u top par n g acc : Nat) (R : List Fi × Nat) (I : xIt), sq m k p u top par n = some R → p ≤ u → u ≤ e → top ≤ 6 → xSw I0 I → I 267 top = nI u → I 268 top = nI g → g < 256 → I 270 top = nI acc → acc ≤ 2 →
    (∀ I', xSw I0 I' → xSt top I I' → I' 270 top = nI ((cvs m x.1 k p u).foldl (jn2 g) acc) → G_RF_matches l V Q 33 [(0, xq (some 250)), (1, xi (nI s)), (2, xi (nI top)), (3, xi (nI u))] [] I' J P) →
    G_RF_matches l V Q 33 [(0, xq (some 250)), (1, xi (nI s)), (2, xi (nI top)), (3, xi (nI p))] [] I J P := by
  intro k
  induction k with
  | zero => intro p u top par n g acc R I h; cases h
  | succ k ih =>
    intro p u top par n g acc R I h hpu hue htop hs h67 h68 hg h70 hacc fin
    by_cases hpe : p = u
    · subst hpe
      refine fin I hs ⟨fun j _ => ⟨rfl, rfl⟩, fun j _ => rfl⟩ ?_
      rw [cvs, if_pos rfl]
      exact h70
    rw [sq, if_neg hpe] at h
    obtain ⟨y, hy, h⟩ := Option.bind_eq_some_iff.mp h
    obtain ⟨t, f, w⟩ := y
    have b1 := tl_bd hy
    have ht6 : t < 256 := by rw [b1.1]; exact (hm p (by omega)).2
    by_cases hcap : top = 6 ∨ n = 12
    · rw [if_pos hcap] at h; cases h
    rw [if_neg hcap] at h
    simp only at h
    have hcv : cvs m x.1 (k + 1) p u = (if 160 ≤ t ∧ t ≤ 162 then nod t (cvs m x.1 k f w) else lv m x.1 (t, 0, f, w)) :: cvs m x.1 k w u := by rw [cvs, if_neg hpe, hy]
    have t47 : G_RF_matches l V Q 47 [(0, xq (some 250)), (1, xi (nI s)), (2, xi (nI top)), (3, xi (nI p))] [] I J P := by
      refine b_RF_matches_47 hL ⟨pk_in top 8 (by omega), ?_⟩
      rw [ncl top, h67]
      refine (pk_eq p u (fun z => absurd z hpe) (fun _ => ⟨pk_in top 8 (by omega), _, c_RF_tlv hL ((hs.ms hm).le hue) (by omega) (by omega), ?_⟩)).symm
      rintro z1 I1 _ _ ⟨rfl, rfl, hs1, hm1⟩
      rw [hy] at hm1
      obtain ⟨rfl, h3, h4, h5⟩ := hm1
      have hfr1 : ∀ a j, ¬ (a = 250 ∧ (3 ≤ j ∧ j ≤ 5)) → I1 a j = I a j := fun a j hc => hs1 a j (by
        unfold dT
        by_cases ha : a = 250
        · subst ha
          have : ¬ (j = 3 ∨ j = 4 ∨ j = 5) := by omega
          simp
          omega
        · simp [ha])
      have hs01 : xSw I0 I1 := hs.trans (fun a j c1 c2 c3 c4 c5 c6 => hfr1 a j (by omega))
      -- a leaf
      have leaf : ¬ (160 ≤ t ∧ t ≤ 162) → G_RF_matches l V Q 191 [(0, xq (some 250)), (1, xi (nI s)), (2, xi (nI top)), (3, xi (nI p)), (4, xi 1)] [] I1 J P := by
        intro hnt
        rw [if_neg hnt] at h
        by_cases hlf : lfb m t f w = true
        · rw [if_pos hlf] at h
          obtain ⟨R', hR, rfl⟩ := Option.map_eq_some_iff.mp h
          refine b_RF_matches_191 hL ?_
          rw [h3, h4, h5]
          refine ⟨_, c_RF_leafValue hL (hs01.ms hm) he (hs01.rt hT) hx hwx ht6 ⟨b1.2.2.2.1, by show w ≤ e; omega⟩ hlf, ?_⟩
          rintro z2 I2 _ _ ⟨rfl, rfl, hs2, rfl⟩
          have hs02 : xSw I0 I2 := hs01.trans (fun a j c1 c2 c3 c4 c5 c6 => hs2 a j c1 c2 c3)
          have g2 : ∀ a j, a = 267 ∨ a = 268 ∨ a = 270 → I2 a j = I a j := fun a j ha => (hs2 a j (by omega) (by omega) (by omega)).trans (hfr1 a j (by omega))
          refine ⟨_, c_RF_into (g := g) (a := acc) hL (by omega) ((g2 268 top (by omega)).trans h68) hg ((g2 270 top (by omega)).trans h70) hacc lv_2, ?_⟩
          rintro I3 _ _ ⟨rfl, rfl, rfl⟩
          refine ih w u top par (n + 1) g (jn2 g acc (lv m x.1 (t, 0, f, w))) R' _ hR (by omega) hue htop (hs02.trans (fun a j c1 c2 c3 c4 c5 c6 => xu_other (by omega))) ((xu_other (by omega)).trans ((g2 267 top (by omega)).trans h67)) ((xu_other (by omega)).trans ((g2 268 top (by omega)).trans h68)) hg xu_at (jn2_2 hacc lv_2) (fun I' hs' hst' h70' => fin I' hs' ⟨fun j hj => ⟨(hst'.1 j hj).1.trans ((xu_other (by omega)).trans (g2 267 j (by omega))), (hst'.1 j hj).2.trans ((xu_other (by omega)).trans (g2 268 j (by omega)))⟩, fun j hj => (hst'.2 j hj).trans ((xu_other (by omega)).trans (g2 270 j (by omega)))⟩ ?_)
          rw [hcv, if_neg hnt, List.foldl_cons]
          exact h70'
        · rw [if_neg hlf] at h; cases h
      refine ⟨fun z => absurd z (by decide), fun _ => ?_⟩
      rw [h3, h4, h5]
      refine pk_lt t 160 (fun z => leaf (by omega)) (fun z => pk_lt 162 t (fun z2 => leaf (by omega)) (fun z2 => ?_))
      -- a filter that holds filters
      have hh : 160 ≤ t ∧ t ≤ 162 := by omega
      rw [if_pos hh] at h
      obtain ⟨L, hLq, h⟩ := Option.bind_eq_some_iff.mp h
      by_cases h162 : t = 162 ∧ L.2 ≠ 1
      · rw [if_pos h162] at h; cases h
      rw [if_neg h162] at h
      obtain ⟨R', hR, rfl⟩ := Option.map_eq_some_iff.mp h
      rw [nI_1, ncl (top + 1)]
      have push : ∀ (i0 : Nat), i0 = (if t = 160 then 2 else 0) → G_RF_matches l V Q 33 [(0, xq (some 250)), (1, xi (nI s)), (2, xi (nI (top + 1))), (3, xi (nI f))] [] (xu (xu (xu I1 267 (top + 1) (nI w)) 268 (top + 1) (nI t)) 270 (top + 1) (nI i0)) J P := by
        intro i0 hi0
        have hi2 : i0 ≤ 2 := by rw [hi0]; split <;> omega
        have hs2 : xSw I0 (xu (xu (xu I1 267 (top + 1) (nI w)) 268 (top + 1) (nI t)) 270 (top + 1) (nI i0)) := hs01.trans (fun a j c1 c2 c3 c4 c5 c6 => (xu_other (by omega)).trans ((xu_other (by omega)).trans (xu_other (by omega))))
        have low2 : ∀ a j, (a = 267 ∨ a = 268 ∨ a = 270) → j ≤ top → (xu (xu (xu I1 267 (top + 1) (nI w)) 268 (top + 1) (nI t)) 270 (top + 1) (nI i0)) a j = I a j := fun a j ha hj => (xu_other (by omega)).trans ((xu_other (by omega)).trans ((xu_other (by omega)).trans (hfr1 a j (by omega))))
        refine ih f w (top + 1) (n + 1) (n + 1) t i0 L _ hLq b1.2.2.2.1 (by omega) (by omega) hs2 ((xu_other (by omega)).trans ((xu_other (by omega)).trans xu_at)) ((xu_other (by omega)).trans xu_at) ht6 xu_at hi2 (fun I' hs' hst' h70' => ?_)
        have h267' : I' 267 (top + 1) = nI w := ((hst'.1 (top + 1) (Nat.le_refl _)).1).trans ((xu_other (by omega)).trans ((xu_other (by omega)).trans xu_at))
        have h268' : I' 268 (top + 1) = nI t := ((hst'.1 (top + 1) (Nat.le_refl _)).2).trans ((xu_other (by omega)).trans xu_at)
        have hlow : ∀ j, j ≤ top → I' 267 j = I 267 j ∧ I' 268 j = I 268 j ∧ I' 270 j = I 270 j := fun j hj => ⟨(hst'.1 j (by omega)).1.trans (low2 267 j (by omega) hj), (hst'.1 j (by omega)).2.trans (low2 268 j (by omega) hj), (hst'.2 j (by omega)).trans (low2 270 j (by omega) hj)⟩
        have hv2 : (cvs m x.1 k f w).foldl (jn2 t) i0 ≤ 2 := fold_2 hi2 (cvs_2 k f w)
        have hnod : nod t (cvs m x.1 k f w) = if t = 162 then 2 - (cvs m x.1 k f w).foldl (jn2 t) i0 else (cvs m x.1 k f w).foldl (jn2 t) i0 := by rw [nod_fold hh, hi0]
        have pop : ∀ v, v = nod t (cvs m x.1 k f w) → v ≤ 2 → ∃ Q2 : xIt → xJt → xPt → Prop, xMet l V y_RF_into 1 0 0 [xq (some 250), xi (nI top), xi (nI v)] xS0 I' J P (xPv Q2) ∧ ∀ (I2 : xIt) (J2 : xJt) (P2 : xPt), Q2 I2 J2 P2 → G_RF_matches l V Q 33 [(0, xq (some 250)), (1, xi (nI s)), (2, xi (nI top)), (3, xi (nI w))] [] I2 J2 P2 := by
          intro v hv hv2'
          refine ⟨_, c_RF_into (g := g) (a := acc) hL (by omega) ((hlow top (Nat.le_refl _)).2.1.trans h68) hg ((hlow top (Nat.le_refl _)).2.2.trans h70) hacc hv2', ?_⟩
          rintro I3 _ _ ⟨rfl, rfl, rfl⟩
          refine ih w u top par (n + 1 + L.1.length) g (jn2 g acc v) R' _ hR (by omega) hue htop (hs'.trans (fun a j c1 c2 c3 c4 c5 c6 => xu_other (by omega))) ((xu_other (by omega)).trans ((hlow top (Nat.le_refl _)).1.trans h67)) ((xu_other (by omega)).trans ((hlow top (Nat.le_refl _)).2.1.trans h68)) hg xu_at (jn2_2 hacc hv2') (fun I4 hs4 hst4 h704 => fin I4 hs4 ⟨fun j hj => ⟨(hst4.1 j hj).1.trans ((xu_other (by omega)).trans (hlow j hj).1), (hst4.1 j hj).2.trans ((xu_other (by omega)).trans (hlow j hj).2.1)⟩, fun j hj => (hst4.2 j hj).trans ((xu_other (by omega)).trans (hlow j (by omega)).2.2)⟩ ?_)
          rw [hcv, if_pos hh, List.foldl_cons, ← hv]
          exact h704
        refine b_RF_matches_33 hL ⟨fun _ => ?_, fun z => absurd (show nI 0 < nI (top + 1) from nI_lt (by omega) (by omega)) z⟩
        refine b_RF_matches_47 hL ⟨pk_in (top + 1) 8 (by omega), ?_⟩
        rw [ncl (top + 1), h267', h268', h70', show nI (top + 1) + -1 = nI top from pk_m1 top]
        refine ⟨fun z => absurd rfl z, fun _ => ⟨pk_in (top + 1) 8 (by omega), (pk_eq t 162 (fun zt => ⟨pk_in (top + 1) 8 (by omega), ?_⟩) (fun zt => ⟨pk_in (top + 1) 8 (by omega), ?_⟩)).symm⟩⟩
        · rw [show (2 : Int32) = nI 2 from rfl, pk_sub hv2]
          exact pop _ (by rw [hnod, if_pos zt]) (by omega)
        · exact pop _ (by rw [hnod, if_neg zt]) hv2
      refine ⟨pk_in (top + 1) 8 (by omega), pk_in (top + 1) 8 (by omega), (pk_eq t 160 (fun zt => ⟨pk_in (top + 1) 8 (by omega), push 2 (by rw [if_pos zt])⟩) (fun zt => ⟨pk_in (top + 1) 8 (by omega), push 0 (by rw [if_neg zt])⟩)).symm⟩
    refine b_RF_matches_33 hL ⟨fun _ => t47, fun z0 => ?_⟩
    have ht0 : top = 0 := Classical.byContradiction fun hne => z0 (show nI 0 < nI top from nI_lt (by omega) (by omega))
    subst ht0
    exact pk_le u p (fun z => by omega) (fun _ => t47) h67
set_option maxRecDepth 20000 in
theorem c_RF_matches {s p : Nat} {x : Ent} {R : List Fi × Nat} (hL : xL P) (hm : xMs I 251 m e) (he : e ≤ 153) (hT : xRt I D) (hx : D[s]? = some x) (hwx : wfe x) (hR : sq m 200 p e 0 0 0 = some R) (hR1 : R.2 = 1) (hp : p ≤ e) (h16 : I 250 16 = nI p) (h17 : I 250 17 = nI e) : xMet l V y_RF_matches 5 0 0 [xq (some 250), xi (nI s)] xS0 I J P (xPi (fun r I' J' P' => J = J' ∧ P = P' ∧ xSw I I' ∧ r = if mtc m x.1 p e = true then 1 else 0)) := by
  refine e_RF_matches (b_RF_matches_0 hL ?_)
  rw [h16, h17]
  have hs0 : xSw I (xu (xu (xu I 267 0 (nI e)) 268 0 161) 270 0 0) := fun a j c1 c2 c3 c4 c5 c6 => (xu_other (by omega)).trans ((xu_other (by omega)).trans (xu_other (by omega)))
  refine RF_walk hL hm he hT hx hwx 200 p e 0 0 0 161 0 R _ hR hp (Nat.le_refl _) (by omega) hs0 ((xu_other (by omega)).trans ((xu_other (by omega)).trans xu_at)) ((xu_other (by omega)).trans xu_at) (by omega) xu_at (by omega) (fun I' hs' hst' h70' => ?_)
  have h267' : I' 267 0 = nI e := (hst'.1 0 (Nat.le_refl _)).1.trans ((xu_other (by omega)).trans ((xu_other (by omega)).trans xu_at))
  obtain ⟨v, hv⟩ := List.length_eq_one_iff.mp ((cvs_len (A := x.1) _ _ _ _ _ _ R hR).trans hR1)
  have hv2 : v ≤ 2 := cvs_2 (m := m) (A := x.1) 200 p e v (by rw [hv]; simp)
  rw [hv, show [v].foldl (jn2 161) 0 = v from by simp [jn2]] at h70'
  have hmt : mtc m x.1 p e = decide (v = 2) := by unfold mtc; rw [hv]; simp
  rw [hmt]
  refine b_RF_matches_33 hL ⟨fun z => absurd z (by decide), fun _ => pk_le e e (fun _ => ?_) (fun z => by omega) h267'⟩
  rw [h70']
  refine (pk_eq v 2 (fun z => ⟨rfl, rfl, hs', by simp [z]⟩) (fun z => ⟨rfl, rfl, hs', by simp [z]⟩)).symm
set_option maxRecDepth 20000 in
theorem c_RF_inScope {c i : Nat} {u : Option Nat} {x : Ent} (hL : xL P) (hi : inv D) (hT : xRt I D) (hc : I 250 11 = nI c) (hc2 : c ≤ 2) (hx : D[i]? = some x) (hu : ∀ w, u = some w → w < D.length) : xMet l V y_RF_inScope 1 0 0 [xq (some 250), xi (nI i), xi (upI u)] xS0 I J P (xPi (fun r I' J' P' => I = I' ∧ J = J' ∧ P = P' ∧ r = if isc D c u i x = true then 1 else 0)) := by
  have h12 := hT.2.1
  have hil := (List.getElem?_eq_some_iff.mp hx).1
  have hu1 : ∀ w, u = some w → w < 1000 := fun w hw => by have := hu w hw; omega
  have hxu : ∀ w, x.2.2.2 = some w → w < 1000 := fun w hw => by have := (hi.1 i x hx).2 w hw; omega
  have loop : ∀ (n : Nat) (w : Option Nat), dpt D n w = true → (∀ j, w = some j → j < D.length) → G_RF_inScope l V (fun r I' J' P' => I = I' ∧ J = J' ∧ P = P' ∧ r = if (decide (u = none) || abv D u n w) = true then 1 else 0) 44 [(0, xq (some 250)), (1, xi (nI i)), (2, xi (upI u)), (3, xi (upI w))] [] I J P := by
    intro n
    induction n with
    | zero =>
      intro w hd hw
      have hw0 : w = none := by cases w with
        | none => rfl
        | some j => cases hd
      subst hw0
      cases u with
      | none => exact b_RF_inScope_44 hL ⟨fun _ => ⟨fun z => absurd rfl z, fun _ => ⟨rfl, rfl, rfl, rfl⟩⟩, fun z => absurd rfl z⟩
      | some b =>
        have hne : ¬ upI none = upI (some b) := fun h => nI_m1 (t := b) (by have := hu b rfl; omega) h.symm
        exact b_RF_inScope_44 hL ⟨fun z => absurd z hne, fun _ => ⟨fun _ => ⟨fun _ => ⟨rfl, rfl, rfl, rfl⟩, fun z => absurd z hne⟩, fun z => absurd (by decide) z⟩⟩
    | succ n ih =>
      intro w hd hw
      cases w with
      | none =>
        cases u with
        | none => exact b_RF_inScope_44 hL ⟨fun _ => ⟨fun z => absurd rfl z, fun _ => ⟨rfl, rfl, rfl, rfl⟩⟩, fun z => absurd rfl z⟩
        | some b =>
          have hne : ¬ upI none = upI (some b) := fun h => nI_m1 (t := b) (by have := hu b rfl; omega) h.symm
          exact b_RF_inScope_44 hL ⟨fun z => absurd z hne, fun _ => ⟨fun _ => ⟨fun _ => ⟨rfl, rfl, rfl, rfl⟩, fun z => absurd z hne⟩, fun z => absurd (by decide) z⟩⟩
      | some j =>
        have hjl := hw j rfl
        obtain ⟨y, hy⟩ : ∃ y, D[j]? = some y := ⟨_, List.getElem?_eq_getElem hjl⟩
        rw [dpt, hy] at hd
        have hab : abv D u (n + 1) (some j) = if some j = u then true else abv D u n y.2.2.2 := by rw [abv, hy]
        by_cases hju : some j = u
        · have he : upI (some j) = upI u := by rw [hju]
          exact b_RF_inScope_44 hL ⟨fun _ => ⟨fun z => absurd he z, fun _ => ⟨rfl, rfl, rfl, by rw [hab, if_pos hju, Bool.or_true]; rfl⟩⟩, fun z => absurd he z⟩
        · have hne : ¬ upI (some j) = upI u := fun h => hju ((upI_inj (fun w hw' => by cases hw'; omega) hu1).mp h)
          refine b_RF_inScope_44 hL ⟨fun z => absurd z hne, fun _ => ⟨fun z => absurd z (nI_pos (n := j) (by omega)), fun _ => ?_⟩⟩
          rw [show upI (some j) = nI j from rfl, ncl j, (hT.2.2 j y hy).2.1]
          refine ⟨pk_in j 13 (by omega), ?_⟩
          have := ih y.2.2.2 hd (fun w hw' => by have := (hi.1 j y hy).2 w hw'; omega)
          rw [hab, if_neg hju]
          exact this
  refine e_RF_inScope (b_RF_inScope_0 hL ?_)
  rw [hc]
  refine (pk_eq c 0 (fun z => ?_) (fun z => (pk_eq c 1 (fun z1 => ?_) (fun z1 => ?_)).symm)).symm
  · have h : isc D c u i x = decide (some i = u) := by unfold isc; rw [if_pos z]
    rw [h]
    have hiff : nI i = upI u ↔ some i = u := by
      rw [show nI i = upI (some i) from rfl]
      exact upI_inj (fun w hw' => by cases hw'; omega) hu1
    exact ⟨fun z => ⟨rfl, rfl, rfl, by rw [decide_eq_false (fun h => z (hiff.mpr h))]; rfl⟩, fun z => ⟨rfl, rfl, rfl, by rw [decide_eq_true (hiff.mp z)]; rfl⟩⟩
  · have h : isc D c u i x = decide (x.2.2.2 = u) := by unfold isc; rw [if_neg z, if_pos z1]
    rw [h, ncl i, (hT.2.2 i x hx).2.1]
    have hiff := upI_inj hxu hu1
    exact ⟨pk_in i 13 (by omega), fun z => ⟨rfl, rfl, rfl, by rw [decide_eq_false (fun h => z (hiff.mpr h))]; rfl⟩, fun z => ⟨rfl, rfl, rfl, by rw [decide_eq_true (hiff.mp z)]; rfl⟩⟩
  · have h : isc D c u i x = (decide (u = none) || abv D u 3 (some i)) := by unfold isc; rw [if_neg z, if_neg z1]
    rw [h]
    exact loop 3 (some i) (hi.2.2.1 i x hx).2 (fun j hj => by cases hj; exact hil)
end XRS

/-! the reference's form of SEARCH: filters on a stack -/
def lfb (m : Nat → Nat) (t f u : Nat) : Bool := if t = 135 then decide (u - f ≤ 30) else if t = 163 ∨ t = 165 ∨ t = 166 then match tk m 4 30 f u with
  | some q => match tk m 4 30 q.2 u with
    | some q2 => decide (q2.2 = u)
    | none => false
  | none => false
  else false
def QL (m : Nat → Nat) (t f u : Nat) (I : xIt) (J : xJt) (P : xPt) : Int32 → xIt → xJt → xPt → Prop := fun r I' J' P' => J = J' ∧ P = P' ∧ xsm dK I I' ∧ r = if lfb m t f u = true then 1 else 0
set_option maxRecDepth 20000 in
theorem c_RF_leafForm {l : Launch} {V : xV} {I : xIt} {J : xJt} {P : xPt} {m : Nat → Nat} {t f u : Nat} (hL : xL P) (hm : xMs I 251 m u) (hu : u ≤ 160) (hf : f ≤ u) (ht : t < 256) (h3 : I 250 3 = nI t) : xMet l V y_RF_leafForm 3 0 0 [xq (some 250), xi (nI f), xi (nI u)] xS0 I J P (xPi (QL m t f u I J P)) := by
  have s6 : xsm dK I (xu I 250 6 (nI f)) := xsm.rfl.put rfl
  have two : t = 163 ∨ t = 165 ∨ t = 166 → G_RF_leafForm l V (QL m t f u I J P) 52 [(0, xq (some 250)), (1, xi (nI f)), (2, xi (nI u)), (3, xi (nI t))] [] (xu I 250 6 (nI f)) J P := by
    intro hc
    have h135 : ¬ t = 135 := by omega
    refine b_RF_leafForm_52 hL ⟨QK m 4 30 f u _ J P, c_RF_take hL (hm.sm s6 (fun j => rfl)) hu (by omega) (by decide) (by decide) rfl, ?_⟩
    intro r1 I1 J1 P1 h1
    obtain ⟨rfl, rfl, s1, o1⟩ := QK_op h1
    refine x_op o1 (fun q1 => ⟨rfl, rfl, s6.trans s1, by simp [lfb, h135, hc, q1]⟩) (fun q q1 a1 => ?_)
    have b1 := tk_bd (f := q.1) (u := q.2) q1
    refine ⟨QK m 4 30 q.2 u _ J P, c_RF_take hL (hm.sm (s6.trans s1) (fun j => rfl)) hu (by omega) (by decide) (by decide) a1.2.2, ?_⟩
    intro r2 I2 J2 P2 h2
    obtain ⟨rfl, rfl, s2, o2⟩ := QK_op h2
    refine x_op o2 (fun q2 => ⟨rfl, rfl, (s6.trans s1).trans s2, by simp [lfb, h135, hc, q1, q2]⟩) (fun q' q2 a2 => ?_)
    have b2 := tk_bd (f := q'.1) (u := q'.2) q2
    rw [a2.2.2]
    exact (pk_eq q'.2 u (fun c => ⟨rfl, rfl, (s6.trans s1).trans s2, by simp [lfb, h135, hc, q1, q2, c]⟩) (fun c => ⟨rfl, rfl, (s6.trans s1).trans s2, by simp [lfb, h135, hc, q1, q2, c]⟩)).symm
  refine e_RF_leafForm (b_RF_leafForm_0 hL ?_)
  rw [h3, pk_sub hf]
  refine (pk_eq t 135 (fun c => ?_) (fun c => ?_)).symm
  · exact pk_lt 30 (u - f) (fun c2 => ⟨rfl, rfl, xsm.rfl, by simp [lfb, c, show ¬ u - f ≤ 30 by omega]⟩) (fun c2 => ⟨rfl, rfl, xsm.rfl, by simp [lfb, c, c2]⟩)
  · refine pk_eq t 163 (fun c1 => two (Or.inl c1)) (fun c1 => pk_eq t 165 (fun c2 => two (Or.inr (Or.inl c2))) (fun c2 => (pk_eq t 166 (fun c3 => two (Or.inr (Or.inr c3))) (fun c3 => ⟨rfl, rfl, s6, ?_⟩)).symm))
    simp [lfb, c, c1, c2, c3]
/-- the filters from p to e in the frame 'top', their parent's place and one (0: none), n of them before: tag, parent, begin, end of each, and how many lie in the frame itself -/
def sq (m : Nat → Nat) : Nat → Nat → Nat → Nat → Nat → Nat → Option (List (Nat × Nat × Nat × Nat) × Nat)
  | 0, _, _, _, _, _ => none
  | k + 1, p, e, top, par, n => if p = e then some ([], 0) else (tl m p e).bind fun x => if top = 6 ∨ n = 12 then none else
    if 160 ≤ x.1 ∧ x.1 ≤ 162 then (sq m k x.2.1 x.2.2 (top + 1) (n + 1) (n + 1)).bind fun L => if x.1 = 162 ∧ L.2 ≠ 1 then none else (sq m k x.2.2 e top par (n + 1 + L.1.length)).map (fun R => ((x.1, par, x.2.1, x.2.2) :: (L.1 ++ R.1), R.2 + 1))
    else if lfb m x.1 x.2.1 x.2.2 = true then (sq m k x.2.2 e top par (n + 1)).map (fun R => ((x.1, par, x.2.1, x.2.2) :: R.1, R.2 + 1)) else none
theorem sq_len (m : Nat → Nat) : ∀ (k p e top par n : Nat) (R : List (Nat × Nat × Nat × Nat) × Nat), n ≤ 12 → sq m k p e top par n = some R → n + R.1.length ≤ 12 ∧ R.2 ≤ R.1.length := by
  intro k
  induction k with
  | zero => intro p e top par n R _ h; cases h
  | succ k ih =>
    intro p e top par n R hn h
    rw [sq] at h
    by_cases hpe : p = e
    · rw [if_pos hpe] at h
      cases h
      exact ⟨hn, Nat.le_refl _⟩
    · rw [if_neg hpe] at h
      obtain ⟨x, hx, h⟩ := Option.bind_eq_some_iff.mp h
      by_cases h6 : top = 6 ∨ n = 12
      · rw [if_pos h6] at h; cases h
      · rw [if_neg h6] at h
        by_cases ht : 160 ≤ x.1 ∧ x.1 ≤ 162
        · rw [if_pos ht] at h
          obtain ⟨L, hL, h⟩ := Option.bind_eq_some_iff.mp h
          by_cases h1 : x.1 = 162 ∧ L.2 ≠ 1
          · rw [if_pos h1] at h; cases h
          · rw [if_neg h1] at h
            obtain ⟨R', hR, h⟩ := Option.map_eq_some_iff.mp h
            subst h
            have i1 := ih _ _ _ _ _ L (by omega) hL
            have i2 := ih _ _ _ _ _ R' (by omega) hR
            simp only [List.length_cons, List.length_append]
            omega
        · rw [if_neg ht] at h
          by_cases hb : lfb m x.1 x.2.1 x.2.2 = true
          · rw [if_pos hb] at h
            obtain ⟨R', hR, h⟩ := Option.map_eq_some_iff.mp h
            subst h
            have i2 := ih _ _ _ _ _ R' (by omega) hR
            simp only [List.length_cons]
            omega
          · rw [if_neg hb] at h; cases h
theorem QT_op {m : Nat → Nat} {p e : Nat} {I I' : xIt} {J J' : xJt} {P P' : xPt} {r : Int32} (h : QT m p e I J P r I' J' P') : J = J' ∧ P = P' ∧ xsm dT I I' ∧ xOp (tl m p e) r (fun q => I' 250 3 = nI q.1 ∧ I' 250 4 = nI q.2.1 ∧ I' 250 5 = nI q.2.2) := by
  obtain ⟨a, b, c, d⟩ := h
  refine ⟨a, b, c, ?_⟩
  revert d
  cases tl m p e <;> exact id
theorem dT_S {a k : Nat} (h : dF [3, 4, 5, 6] [267, 268, 269] a k = false) : dT a k = false := dT_K (by rw [dK_F]; exact dF_mono (Eq.refl _) (Eq.refl _) a k h)
/-- two states of the stack agree below and at 'top' but for the count at 'top' -/
def xSk (top : Nat) (I I' : xIt) : Prop := (∀ j, j ≤ top → I' 267 j = I 267 j ∧ I' 268 j = I 268 j) ∧ ∀ j, j < top → I' 269 j = I 269 j
set_option maxRecDepth 20000 in
theorem RF_frame {l : Launch} {V : xV} {I0 : xIt} {J : xJt} {P : xPt} {m : Nat → Nat} {e0 : Nat} {Q : Int32 → xIt → xJt → xPt → Prop} (hL : xL P) (hm : xMs I0 251 m e0) (he0 : e0 ≤ 160) : ∀ (k p e top par n c : Nat) (I : xIt), e - p < k → p ≤ e → e ≤ e0 → top ≤ 6 → n ≤ 12 → c ≤ n → xsm (dF [3, 4, 5, 6] [267, 268, 269]) I0 I → I 267 top = nI e → I 269 top = nI c →
    (sq m k p e top par n = none → ∀ I', xsm (dF [3, 4, 5, 6] [267, 268, 269]) I0 I' → Q 0 I' J P) →
    (∀ R, sq m k p e top par n = some R → ∀ I', xsm (dF [3, 4, 5, 6] [267, 268, 269]) I0 I' → xSk top I I' → I' 269 top = nI (c + R.2) → G_RF_searchForm l V Q 129 [(0, xq (some 250)), (1, xi (nI e0)), (2, xi (nI top)), (3, xi (nI e)), (4, xi (nI (n + R.1.length)))] [] I' J P) →
    G_RF_searchForm l V Q 129 [(0, xq (some 250)), (1, xi (nI e0)), (2, xi (nI top)), (3, xi (nI p)), (4, xi (nI n))] [] I J P := by
  intro k
  induction k with
  | zero => intro p e top par n c I h; omega
  | succ k ih =>
    intro p e top par n c I hk hpe hee htop hn hc hs h7 h9 hf hg
    by_cases hpe0 : p = e
    · subst hpe0
      have h := hg ([], 0) (by rw [sq, if_pos rfl]) I hs ⟨fun j _ => ⟨rfl, rfl⟩, fun j _ => rfl⟩ h9
      exact h
    · refine b_RF_searchForm_129 hL ?_
      refine ⟨fun z => absurd z (nI_pos (by omega)), fun _ => ⟨pk_in top 8 (by omega), ?_⟩⟩
      rw [pk_cl top, h7]
      refine (pk_eq p e (fun z => absurd z hpe0) (fun _ => ⟨pk_in top 8 (by omega), QT m p e I J P, c_RF_tlv hL (fun j hj => hm.sm hs (fun j => rfl) j (by omega)) (by omega) (by omega), ?_⟩)).symm
      intro r1 I1 J1 P1 h1
      obtain ⟨rfl, rfl, s1, o1⟩ := QT_op h1
      have t1 : xsm (dF [3, 4, 5, 6] [267, 268, 269]) I0 I1 := hs.trans (s1.mono (fun _ _ => dT_S))
      refine x_op o1 (fun q1 => hf (by rw [sq, if_neg hpe0, q1]; rfl) _ t1) (fun x q1 a1 => ?_)
      obtain ⟨t, f, u⟩ := x
      have b1 := tl_bd q1
      have ht6 : t < 256 := by rw [b1.1]; exact (hm p (by omega)).2
      have h91 : I1 269 top = nI c := (s1 269 top rfl).trans h9
      have hsq0 : sq m (k + 1) p e top par n = if top = 6 ∨ n = 12 then none else
          if 160 ≤ t ∧ t ≤ 162 then (sq m k f u (top + 1) (n + 1) (n + 1)).bind fun L => if t = 162 ∧ L.2 ≠ 1 then none else (sq m k u e top par (n + 1 + L.1.length)).map (fun R => ((t, par, f, u) :: (L.1 ++ R.1), R.2 + 1))
          else if lfb m t f u = true then (sq m k u e top par (n + 1)).map (fun R => ((t, par, f, u) :: R.1, R.2 + 1)) else none := by
        rw [sq, if_neg hpe0, q1]
        rfl
      refine pk_eq top 6 (fun z => hf (by rw [hsq0, if_pos (Or.inl z)]) _ t1) (fun z => (pk_eq n 12 (fun z2 => hf (by rw [hsq0, if_pos (Or.inr z2)]) _ t1) (fun z2 => ⟨pk_in top 8 (by omega), pk_in top 8 (by omega), ?_⟩)).symm)
      have hsq1 : sq m (k + 1) p e top par n = if 160 ≤ t ∧ t ≤ 162 then (sq m k f u (top + 1) (n + 1) (n + 1)).bind fun L => if t = 162 ∧ L.2 ≠ 1 then none else (sq m k u e top par (n + 1 + L.1.length)).map (fun R => ((t, par, f, u) :: (L.1 ++ R.1), R.2 + 1))
          else if lfb m t f u = true then (sq m k u e top par (n + 1)).map (fun R => ((t, par, f, u) :: R.1, R.2 + 1)) else none := by
        rw [hsq0, if_neg (by omega)]
      rw [h91, a1.1, a1.2.1, a1.2.2, nI_1, nI_1, nI_1, pk_cl (top + 1)]
      have t1' := t1.put (a := 269) (k := top) (v := nI (c + 1)) rfl
      have leaf : ¬ (160 ≤ t ∧ t ≤ 162) → ∃ Q2 : Int32 → xIt → xJt → xPt → Prop, xMet l V y_RF_leafForm 3 0 0 [xq (some 250), xi (nI f), xi (nI u)] xS0 (xu I1 269 top (nI (c + 1))) J P (xPi Q2) ∧ ∀ (z2 : Int32) (I2 : xIt) (J2 : xJt) (P2 : xPt), Q2 z2 I2 J2 P2 → ((¬ z2 = 0 → G_RF_searchForm l V Q 129 [(0, xq (some 250)), (1, xi (nI e0)), (2, xi (nI top)), (3, xi (nI u)), (4, xi (nI (n + 1)))] [] I2 J2 P2) ∧ (z2 = 0 → Q 0 I2 J2 P2)) := by
        intro hnt
        refine ⟨QL m t f u _ J P, c_RF_leafForm hL (fun j hj => hm.sm t1' (fun j => rfl) j (by omega)) (by omega) b1.2.2.2.1 ht6 a1.1, ?_⟩
        rintro r2 I2 _ _ ⟨rfl, rfl, s2, hr2⟩
        have t2 := t1'.trans (s2.K (ks := [3, 4, 5, 6]) (as := [267, 268, 269]) rfl)
        by_cases hb : lfb m t f u = true
        · rw [if_pos hb] at hr2
          subst hr2
          refine ⟨fun _ => ?_, fun zz => absurd zz (by decide)⟩
          refine ih u e top par (n + 1) (c + 1) I2 (by omega) (by omega) hee htop (by omega) (by omega) t2 ((s2 267 top rfl).trans ((s1 267 top rfl).trans h7)) ((s2 269 top rfl).trans xu_at) (fun hnone => hf (by rw [hsq1, if_neg hnt, if_pos hb, hnone]; rfl)) ?_
          intro R' hR' I' hs' hk' hc'
          have h := hg ((t, par, f, u) :: R'.1, R'.2 + 1) (by rw [hsq1, if_neg hnt, if_pos hb, hR']; rfl) I' hs' ⟨fun j hj => ⟨((hk'.1 j hj).1).trans ((s2 267 j rfl).trans (s1 267 j rfl)), ((hk'.1 j hj).2).trans ((s2 268 j rfl).trans (s1 268 j rfl))⟩, fun j hj => (hk'.2 j hj).trans ((s2 269 j rfl).trans ((xu_other (by omega)).trans (s1 269 j rfl)))⟩ (by rw [hc']; congr 1; omega)
          rw [show n + ((t, par, f, u) :: R'.1, R'.2 + 1).1.length = n + 1 + R'.1.length from by simp; omega] at h
          exact h
        · rw [if_neg hb] at hr2
          subst hr2
          exact ⟨fun zz => absurd rfl zz, fun _ => hf (by rw [hsq1, if_neg hnt, if_neg hb]) _ t2⟩
      refine pk_lt t 160 (fun z3 => leaf (by omega)) (fun z3 => pk_lt 162 t (fun z4 => leaf (by omega)) (fun z4 => ⟨pk_in (top + 1) 8 (by omega), pk_in (top + 1) 8 (by omega), pk_in (top + 1) 8 (by omega), ?_⟩))
      have hyt : 160 ≤ t ∧ t ≤ 162 := by omega
      have t3 := ((t1'.put (a := 267) (k := top + 1) (v := nI u) rfl).put (a := 268) (k := top + 1) (v := nI t) rfl).put (a := 269) (k := top + 1) (v := 0) rfl
      refine ih f u (top + 1) (n + 1) (n + 1) 0 _ (by omega) b1.2.2.2.1 (by omega) (by omega) (by omega) (by omega) t3 ?_ xu_at (fun hnone => hf (by rw [hsq1, if_pos hyt, hnone]; rfl)) ?_
      · rw [xu_other (by omega), xu_other (by omega), xu_at]
      · intro L hL' I' hs' hk' hc'
        have hlen := sq_len m _ _ _ _ _ _ L (by omega) hL'
        have g7 : I' 267 (top + 1) = nI u := ((hk'.1 (top + 1) (by omega)).1).trans (by rw [xu_other (by omega), xu_other (by omega), xu_at])
        have g8 : I' 268 (top + 1) = nI t := ((hk'.1 (top + 1) (by omega)).2).trans (by rw [xu_other (by omega), xu_at])
        have after : (t = 162 → L.2 = 1) → G_RF_searchForm l V Q 129 [(0, xq (some 250)), (1, xi (nI e0)), (2, xi (nI top)), (3, xi (nI u)), (4, xi (nI (n + 1 + L.1.length)))] [] I' J P := by
          intro h162
          have hno : ¬ (t = 162 ∧ L.2 ≠ 1) := fun w => w.2 (h162 w.1)
          refine ih u e top par (n + 1 + L.1.length) (c + 1) I' (by omega) (by omega) hee htop (by omega) (by omega) hs' ?_ ?_ (fun hnone => hf (by rw [hsq1, if_pos hyt, hL']; simp only [Option.bind_some]; rw [if_neg hno, hnone]; rfl)) ?_
          · exact ((hk'.1 top (by omega)).1).trans (by rw [xu_other (by omega), xu_other (by omega), xu_other (by omega), xu_other (by omega)]; exact (s1 267 top rfl).trans h7)
          · exact (hk'.2 top (by omega)).trans (by rw [xu_other (by omega), xu_other (by omega), xu_other (by omega), xu_at])
          · intro R' hR' I'' hs'' hk'' hc''
            have h := hg ((t, par, f, u) :: (L.1 ++ R'.1), R'.2 + 1) (by rw [hsq1, if_pos hyt, hL']; simp only [Option.bind_some]; rw [if_neg hno, hR']; rfl) I'' hs'' ⟨fun j hj => ⟨?_, ?_⟩, fun j hj => ?_⟩ (by rw [hc'']; congr 1; omega)
            · rw [show n + ((t, par, f, u) :: (L.1 ++ R'.1), R'.2 + 1).1.length = n + 1 + L.1.length + R'.1.length from by simp; omega] at h
              exact h
            · exact ((hk''.1 j hj).1).trans (((hk'.1 j (by omega)).1).trans (by rw [xu_other (by omega), xu_other (by omega), xu_other (by omega), xu_other (by omega)]; exact s1 267 j rfl))
            · exact ((hk''.1 j hj).2).trans (((hk'.1 j (by omega)).2).trans (by rw [xu_other (by omega), xu_other (by omega), xu_other (by omega), xu_other (by omega)]; exact s1 268 j rfl))
            · exact (hk''.2 j hj).trans ((hk'.2 j (by omega)).trans (by rw [xu_other (by omega), xu_other (by omega), xu_other (by omega), xu_other (by omega)]; exact s1 269 j rfl))
        refine b_RF_searchForm_129 hL ?_
        refine ⟨fun zz => absurd zz (nI_pos (by omega)), fun _ => ⟨pk_in (top + 1) 8 (by omega), ?_⟩⟩
        rw [pk_cl (top + 1), g7, g8, hc', pk_m1]
        refine ⟨fun zz => absurd rfl zz, fun _ => ⟨pk_in (top + 1) 8 (by omega), ?_⟩⟩
        refine (pk_eq t 162 (fun z5 => ⟨pk_in (top + 1) 8 (by omega), pk_eq (0 + L.2) 1 (fun z6 => after (fun _ => by omega)) (fun z6 => hf (by rw [hsq1, if_pos hyt, hL']; simp only [Option.bind_some]; rw [if_pos ⟨z5, by omega⟩]) _ hs')⟩) (fun z5 => after (fun w => absurd w z5))).symm

/-! the class's readFilter: its contract, by the depth that is left -/
set_option maxRecDepth 20000 in
set_option maxHeartbeats 4000000 in
theorem c_RQ_readFilter {l : Launch} {V : xV} {J : xJt} {P : xPt} {m : Nat → Nat} (hL : xL P) : ∀ (dd top : Nat), top + dd = 6 → ∀ (p e par : Nat) (T0 : List (Nat × Nat)) (N : List (Nat × Nat × Nat × Nat)) (I : xIt), e ≤ 153 → p ≤ e → xMs I 2 m e → xFl m I T0 N → N.length ≤ 12 → 2 * (T0 ++ N.flatMap (tx m)).length + 7 ≤ p → I 1 1 = nI p →
    xMet l V y_RQ_readFilter (dd + 4) 0 0 [xq (some 1), xi (nI e), xi (nI par - 1), xi (nI (top + 1))] xS0 I J P (xPi (QF m p e top par T0 N I J P)) := by
  intro dd
  induction dd with
  | zero =>
    intro top ht p e par T0 N I he hp hm hF hn h2 hat
    have h6 : top = 6 := by omega
    subst h6
    exact e_RQ_readFilter (n := 0) (b_RQ_readFilter_0 hL ⟨fun _ => ⟨rfl, rfl, xsm.rfl, xOp.n iw_6 rfl⟩, fun c => absurd (by decide) c⟩)
  | succ dd ih =>
    intro top ht p e par T0 N I he hp hm hF hn h2 hat
    have hbb : ∀ j, j < e → m j < 256 := fun j hj => (hm j hj).2
    refine e_RQ_readFilter (n := dd + 1) (b_RQ_readFilter_0 hL ?_)
    refine pk_lt 6 (top + 1) (fun c => by omega) (fun _ => ?_)
    rw [hat]
    refine pk_lt p e (fun hpe => ⟨pk_in p 153 (by omega), ?_⟩) (fun hpe => ⟨rfl, rfl, xsm.rfl, xOp.n (by simp only [iw, show tl m p e = none from by simp only [tl, if_neg (show ¬ p + 2 ≤ e by omega)]]; rfl) rfl⟩)
    rw [pk_cl p, (hm p hpe).1, nI_1]
    have ht6 : m p < 256 := hbb p hpe
    refine ⟨QE m (m p) p e I J P, c_RQ_enter hL hm he hp ht6 hat, ?_⟩
    rintro r1 I1 _ _ ⟨rfl, rfl, o1⟩
    have s1 : xsm (dO 1 [1] []) I I1 := by
      cases hq : tk m (m p) 255 p e with
      | none => rw [hq] at o1; rw [o1.2]; exact xsm.rfl
      | some q => rw [hq] at o1; rw [o1.2]; exact xsm.rfl.put rfl
    have hF1 : xFl m I1 T0 N := hF.sm s1 rfl rfl (fun _ => rfl) (fun _ => rfl) (fun _ => rfl) (fun _ => rfl) (fun _ => rfl)
    refine ⟨_, c_FL_add (t := m p) (par := par) hL hF1 hn, ?_⟩
    rintro r2 I2 _ _ ⟨rfl, rfl, s2, h2a⟩
    have t2 : xsm (dO 1 kF aF) I I2 := (s1.O (ks' := kF) (as' := aF) rfl rfl).trans (s2.O (ks' := kF) (as' := aF) rfl rfl)
    have bad : ∀ I', xsm (dO 1 kF aF) I I' → iw m p e top par N.length = none → QF m p e top par T0 N I J P 0 I' J P := fun I' h hn => ⟨rfl, rfl, h, xOp.n hn rfl⟩
    refine x_on o1 (fun q hq => by have := tk_bd (f := q.1) (u := q.2) hq; omega) (fun hn' _ _ => bad _ t2 (by simp only [iw, tk_tl_none hbb hn']; rfl)) (fun q hq hr hI => ?_)
    obtain ⟨f, u⟩ := q
    have hr : r1 = nI u := hr
    subst hr
    have htl := tk_tl hq
    have b := tl_bd htl
    by_cases h12 : N.length = 12
    · rw [if_pos h12] at h2a
      subst h2a
      exact ⟨fun z => absurd z (by decide), fun _ => bad _ t2 (by simp [iw, htl, h12])⟩
    rw [if_neg h12] at h2a
    obtain ⟨rfl, g66, gT, gN, gx⟩ := h2a
    refine ⟨fun _ => ?_, fun z => absurd (nI_pos' (by omega)) z⟩
    have g11 : I2 1 1 = nI f := (s2 1 1 rfl).trans (by rw [hI]; rfl)
    have hiw : iw m p e top par N.length = if 160 ≤ m p ∧ m p ≤ 162 then (sq m 200 f u (top + 1) (N.length + 1) (N.length + 1)).bind fun L => if m p = 162 ∧ L.2 ≠ 1 then none else some ((m p, par, f, u) :: L.1, u)
        else if lfb m (m p) f u = true then some ([(m p, par, f, u)], u) else none := by
      simp only [iw, htl, Option.bind_some]
      rw [if_neg (by omega)]
    have hmx : ∀ I', xsm (dO 1 kF aF) I I' → xMs I' 2 m u := fun I' h j hj => hm.sm h (fun j => rfl) j (by omega)
    have cv : ∀ k, k < 256 → nI (m p) = nI k → m p = k := fun k hk h => (nI_eq (by omega) (by omega)).mp h
    have hlen : (T0 ++ N.flatMap (tx m)).length < 75 := by omega
    -- a filter that holds filters
    have hold : tx m (m p, par, f, u) = [] → xFl m I2 T0 (N ++ [(m p, par, f, u)]) := fun h0 => mkFl (I := I2) g66 (by rw [h0, List.append_nil]; exact gT) gN gx
    have hdep : xi (nI (N.length)) = xi (nI (N.length + 1) - 1) := by rw [show nI (N.length + 1) - 1 = nI N.length from pk_sub (b := 1) (by omega)]
    -- AND, OR
    have loop : 160 ≤ m p ∧ m p ≤ 161 → ∀ (k j p1 : Nat) (A : List (Nat × Nat × Nat × Nat)) (I3 : xIt), u - p1 < k → p1 ≤ u → j ≤ A.length → (N ++ (m p, par, f, u) :: A).length ≤ 12 → xsm (dO 1 kF aF) I I3 → I3 1 1 = nI p1 → xFl m I3 T0 (N ++ (m p, par, f, u) :: A) → 2 * (T0 ++ (N ++ (m p, par, f, u) :: A).flatMap (tx m)).length + 7 ≤ p1 → (sq m 200 f u (top + 1) (N.length + 1) (N.length + 1) = (sq m 200 p1 u (top + 1) (N.length + 1) (N.length + 1 + A.length)).map (fun R => (A ++ R.1, R.2 + j))) → G_RQ_readFilter (dd + 1) l V (QF m p e top par T0 N I J P) 135 [(0, xq (some 1)), (1, xi (nI e)), (2, xi (nI par - 1)), (3, xi (nI (top + 1))), (4, xi (nI (m p))), (5, xi (nI u)), (6, xi (nI N.length)), (7, xi (nI j))] [] I3 J P := by
      intro hao k
      induction k with
      | zero => intro j p1 A I3 h; omega
      | succ k ihk =>
        intro j p1 A I3 hk hp1 hj hA hs h1 hF3 hb3 hsq
        have hA' : N.length + 1 + A.length ≤ 12 := by simp at hA; omega
        refine b_RQ_readFilter_135 hL (pk_le 12 j (fun c => by omega) (fun _ => ?_))
        rw [h1, nI_1]
        refine pk_le u p1 (fun c => ?_) (fun c => ?_)
        · have hpu : p1 = u := by omega
          subst hpu
          refine ⟨fun z => absurd rfl z, fun _ => ⟨rfl, rfl, hs, xOp.s (q := ((m p, par, f, p1) :: A, p1)) ?_ rfl ⟨h1, hF3, hb3⟩⟩⟩
          rw [hiw, if_pos (by omega), hsq, show (200 : Nat) = 199 + 1 from rfl, sq_end]
          simp only [Option.map_some, Option.bind_some, List.append_nil]
          rw [if_neg (by omega)]
        · rw [hdep]
          refine ⟨_, ih (top + 1) (by omega) p1 u (N.length + 1) T0 (N ++ (m p, par, f, u) :: A) I3 (by omega) hp1 (hmx _ hs) hF3 hA hb3 h1, ?_⟩
          rintro r4 I4 _ _ ⟨rfl, rfl, s4, o4⟩
          have t4 := hs.trans s4
          have hln : (N ++ (m p, par, f, u) :: A).length = N.length + 1 + A.length := by simp; omega
          rw [hln] at o4
          have hst := sq_step (m := m) (p := p1) (e := u) (top := top + 1) (par := N.length + 1) (n := N.length + 1 + A.length) (by omega) (by omega)
          refine (x_op o4 (fun q4 => bad _ t4 ?_) (fun B q4 a4 => ?_)).symm
          · rw [hiw, if_pos (by omega), hsq, hst, q4]
            rfl
          · have bB := iw_bd hA' q4
            have hh := ihk (j + 1) B.2 (A ++ B.1) I4 (by omega) (by omega) (by simp; omega) (by simp; omega) t4 a4.1 (by simpa using a4.2.1) (by simpa using a4.2.2) (by
              rw [hsq, hst, q4]
              simp only [Option.bind_some]
              rw [show N.length + 1 + (A ++ B.1).length = N.length + 1 + A.length + B.1.length from by simp; omega]
              cases sq m 200 B.2 u (top + 1) (N.length + 1) (N.length + 1 + A.length + B.1.length) with
              | none => rfl
              | some R => simp only [Option.map_some, List.append_assoc]; rw [show R.2 + 1 + j = R.2 + (j + 1) by omega])
            rw [hdep, ← nI_1 j] at hh
            exact hh
    have ao : 160 ≤ m p ∧ m p ≤ 161 → G_RQ_readFilter (dd + 1) l V (QF m p e top par T0 N I J P) 135 [(0, xq (some 1)), (1, xi (nI e)), (2, xi (nI par - 1)), (3, xi (nI (top + 1))), (4, xi (nI (m p))), (5, xi (nI u)), (6, xi (nI N.length)), (7, xi 0)] [] I2 J P := by
      intro hao
      have h0 : tx m (m p, par, f, u) = [] := by simp only [tx]; rw [if_neg (by omega), if_neg (by omega)]
      refine loop hao 200 0 f [] I2 (by omega) (by omega) (by simp) (by simp; omega) t2 g11 (hold h0) ?_ ?_
      · simp only [List.flatMap_append, List.flatMap_cons, List.flatMap_nil, h0, List.append_nil]
        omega
      · cases sq m 200 f u (top + 1) (N.length + 1) (N.length + 1) <;> simp
    -- a filter with a type and a value
    have two : m p = 163 ∨ m p = 165 ∨ m p = 166 → ∃ Q5 : Int32 → xIt → xJt → xPt → Prop, xMet l V y_RQ_readText 2 0 0 [xq (some 1), xi 4, xi (nI u)] xS0 I2 J P (xPi Q5) ∧ ∀ (z5 : Int32) (I5 : xIt) (J5 : xJt) (P5 : xPt), Q5 z5 I5 J5 P5 → ((z5 = 0 → QF m p e top par T0 N I J P 0 I5 J5 P5) ∧ (¬ z5 = 0 → (∃ Q6 : Int32 → xIt → xJt → xPt → Prop, xMet l V y_RQ_readText 2 0 0 [xq (some 1), xi 4, xi (nI u)] xS0 I5 J5 P5 (xPi Q6) ∧ ∀ (z6 : Int32) (I6 : xIt) (J6 : xJt) (P6 : xPt), Q6 z6 I6 J6 P6 → ((z6 = 0 → QF m p e top par T0 N I J P 0 I6 J6 P6) ∧ (¬ z6 = 0 → ((¬ (I6 1 1) = nI u → QF m p e top par T0 N I J P 0 I6 J6 P6) ∧ ((I6 1 1) = nI u → QF m p e top par T0 N I J P 1 I6 J6 P6))))))) := by
      intro h3
      have hny : ¬ (160 ≤ m p ∧ m p ≤ 162) := by omega
      refine ⟨QX m 4 f u (T0 ++ N.flatMap (tx m)) I2 J P, c_RQ_readText hL (hmx _ t2) (by omega) (by omega) (by decide) gT hlen g11, ?_⟩
      intro r5 I5 J5 P5 hq5
      obtain ⟨rfl, rfl, s5, o5⟩ := QX_op hq5
      have t5 := t2.trans (s5.O (ks' := kF) (as' := aF) rfl rfl)
      refine x_op o5 (fun q5 => bad _ t5 (by rw [hiw, if_neg hny, if_neg (by simp [lfb, show ¬ m p = 135 by omega, h3, q5])])) (fun B q5 a5 => ?_)
      have bB := tk_bd (f := B.1) (u := B.2) q5
      refine ⟨QX m 4 B.2 u (T0 ++ N.flatMap (tx m) ++ [B]) I5 J P, c_RQ_readText hL (hmx _ t5) (by omega) (by omega) (by decide) a5.2 (by simp; simp at h2 hlen; omega) a5.1, ?_⟩
      intro r6 I6 J6 P6 hq6
      obtain ⟨rfl, rfl, s6, o6⟩ := QX_op hq6
      have t6 := t5.trans (s6.O (ks' := kF) (as' := aF) rfl rfl)
      refine x_op o6 (fun q6 => bad _ t6 (by rw [hiw, if_neg hny, if_neg (by simp [lfb, show ¬ m p = 135 by omega, h3, q5, q6])])) (fun C q6 a6 => ?_)
      have bC := tk_bd (f := C.1) (u := C.2) q6
      refine (pk_eq C.2 u (fun z => ?_) (fun z => bad _ t6 (by rw [hiw, if_neg hny, if_neg (by simp [lfb, show ¬ m p = 135 by omega, h3, q5, q6, z])])) a6.1).symm
      have htx : tx m (m p, par, f, u) = [B, C] := by
        simp only [tx, if_neg (show ¬ m p = 135 by omega), if_pos h3, q5, q6]
      refine ⟨rfl, rfl, t6, xOp.s (q := ([(m p, par, f, u)], u)) (by rw [hiw, if_neg hny, if_pos (by simp [lfb, show ¬ m p = 135 by omega, h3, q5, q6, z])]) rfl ⟨by rw [a6.1, z], mkFl (I := I2) ?_ ?_ ?_ ?_, ?_⟩⟩
      · exact (s6 6 6 rfl).trans ((s5 6 6 rfl).trans g66)
      · rw [htx]; simpa using a6.2
      · intro i y hi
        have g := gN i y hi
        exact ⟨(s6 7 i rfl).trans ((s5 7 i rfl).trans g.1), (s6 8 i rfl).trans ((s5 8 i rfl).trans g.2.1), (s6 9 i rfl).trans ((s5 9 i rfl).trans g.2.2)⟩
      · exact ⟨(s6 7 _ rfl).trans ((s5 7 _ rfl).trans gx.1), (s6 8 _ rfl).trans ((s5 8 _ rfl).trans gx.2.1), (s6 9 _ rfl).trans ((s5 9 _ rfl).trans gx.2.2)⟩
      · simp only [List.flatMap_append, List.flatMap_cons, List.flatMap_nil, htx, List.append_nil]
        simp
        simp at h2
        omega
    refine ⟨fun c => ?_, fun c => ao (by have := cv 160 (by omega) c; omega), fun c => ao (by have := cv 161 (by omega) c; omega), fun c => ?_, fun c => two (Or.inl (cv 163 (by omega) c)), fun c => two (Or.inr (Or.inl (cv 165 (by omega) c))), fun c => two (Or.inr (Or.inr (cv 166 (by omega) c))), fun c1 c2 c3 c4 c5 c6 c7 => ?_⟩
    · -- PRESENT
      have h3 := cv 135 (by omega) c
      have hny : ¬ (160 ≤ m p ∧ m p ≤ 162) := by omega
      refine ⟨_, c_RQ_takeText (p := f) (u := u) (T := T0 ++ N.flatMap (tx m)) hL (by omega) (by omega) gT hlen g11, ?_⟩
      rintro r5 I5 _ _ ⟨rfl, rfl, s5, h5⟩
      have t5 := t2.trans (s5.O (ks' := kF) (as' := aF) rfl rfl)
      by_cases hc : u - f ≤ 30
      · rw [if_pos hc] at h5
        obtain ⟨rfl, g1, gT5⟩ := h5
        have htx : tx m (m p, par, f, u) = [(f, u)] := by simp only [tx, if_pos h3]
        refine ⟨Or.inr rfl, rfl, rfl, t5, xOp.s (q := ([(m p, par, f, u)], u)) (by rw [hiw, if_neg hny, if_pos (by simp [lfb, h3, hc])]) rfl ⟨g1, mkFl (I := I2) ((s5 6 6 rfl).trans g66) (by rw [htx]; exact gT5) ?_ ?_, ?_⟩⟩
        · intro i y hi
          have g := gN i y hi
          exact ⟨(s5 7 i rfl).trans g.1, (s5 8 i rfl).trans g.2.1, (s5 9 i rfl).trans g.2.2⟩
        · exact ⟨(s5 7 _ rfl).trans gx.1, (s5 8 _ rfl).trans gx.2.1, (s5 9 _ rfl).trans gx.2.2⟩
        · simp only [List.flatMap_append, List.flatMap_cons, List.flatMap_nil, htx, List.append_nil]
          simp
          simp at h2
          omega
      · rw [if_neg hc] at h5
        subst h5
        exact ⟨Or.inl rfl, bad _ t5 (by rw [hiw, if_neg hny, if_neg (by simp [lfb, h3, hc])])⟩
    · -- NOT
      have h3 := cv 162 (by omega) c
      have h0 : tx m (m p, par, f, u) = [] := by simp only [tx]; rw [if_neg (by omega), if_neg (by omega)]
      have hone := sq_one (m := m) (f := f) (u := u) (top := top + 1) (par := N.length + 1) (n := N.length + 1) b.2.2.2.1 (by omega) (by omega)
      have hiw2 : iw m p e top par N.length = ((sq m 200 f u (top + 1) (N.length + 1) (N.length + 1)).bind fun L => if L.2 ≠ 1 then none else some L.1).map (fun A => ((m p, par, f, u) :: A, u)) := by
        rw [hiw, if_pos (by omega)]
        cases sq m 200 f u (top + 1) (N.length + 1) (N.length + 1) with
        | none => rfl
        | some L =>
          simp only [Option.bind_some]
          by_cases hz : L.2 = 1
          · rw [if_neg (by omega), if_neg (by omega)]; rfl
          · rw [if_pos (by omega), if_pos hz]; rfl
      rw [hone] at hiw2
      rw [hdep]
      refine ⟨_, ih (top + 1) (by omega) f u (N.length + 1) T0 (N ++ [(m p, par, f, u)]) I2 (by omega) b.2.2.2.1 (hmx _ t2) (hold h0) (by simp; omega) (by simp only [List.flatMap_append, List.flatMap_cons, List.flatMap_nil, h0, List.append_nil]; omega) g11, ?_⟩
      rintro r4 I4 _ _ ⟨rfl, rfl, s4, o4⟩
      have t4 := t2.trans s4
      rw [show (N ++ [(m p, par, f, u)]).length = N.length + 1 from by simp] at o4
      refine x_op o4 (fun q4 => bad _ t4 (by rw [hiw2, q4]; rfl)) (fun A q4 a4 => ?_)
      have bA := iw_bd (by omega) q4
      refine (pk_eq A.2 u (fun z => ⟨rfl, rfl, t4, xOp.s (q := ((m p, par, f, u) :: A.1, u)) (by rw [hiw2, q4]; simp only [Option.bind_some]; rw [if_pos z]; rfl) rfl ⟨by rw [a4.1, z], by simpa using a4.2.1, by have := a4.2.2; rw [z] at this; simpa using this⟩⟩) (fun z => bad _ t4 (by rw [hiw2, q4]; simp only [Option.bind_some]; rw [if_neg z]; rfl)) a4.1).symm
    · -- no kind of filter
      have n1 : ¬ m p = 135 := fun z => c1 (by rw [z]; rfl)
      have n2 : ¬ m p = 160 := fun z => c2 (by rw [z]; rfl)
      have n3 : ¬ m p = 161 := fun z => c3 (by rw [z]; rfl)
      have n4 : ¬ m p = 162 := fun z => c4 (by rw [z]; rfl)
      have n5 : ¬ m p = 163 := fun z => c5 (by rw [z]; rfl)
      have n6 : ¬ m p = 165 := fun z => c6 (by rw [z]; rfl)
      have n7 : ¬ m p = 166 := fun z => c7 (by rw [z]; rfl)
      exact bad _ t2 (by rw [hiw, if_neg (by omega), if_neg (by simp [lfb, n1, n5, n6, n7])])

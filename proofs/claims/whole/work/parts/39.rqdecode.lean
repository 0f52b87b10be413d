/-! the class's decode -/
set_option maxRecDepth 20000 in
theorem c_FL_clear {l : Launch} {V : xV} {I : xIt} {J : xJt} {P : xPt} (hL : xL P) : xMet l V y_FL_clear 1 0 0 [xq (some 6)] xS0 I J P (xPv (fun I' J' P' => J = J' ∧ P = P' ∧ I' = xu I 6 6 0)) :=
  e_FL_clear (b_FL_clear_0 hL ⟨rfl, rfl, rfl⟩)
/-- the request of the first e bytes, as the class reads it -/
def dg (m : Nat → Nat) (e : Nat) : Option (Int32 × Nat × Nat) := (tk m 48 255 0 e).bind fun q => if q.2 = e then fg m q.1 e else none
abbrev kD : List Nat := [1, 2, 3, 4, 5, 6, 9, 11]
def QD (m : Nat → Nat) (e : Nat) (I : xIt) (J : xJt) (P : xPt) : Int32 → xIt → xJt → xPt → Prop := fun r I' J' P' => J = J' ∧ P = P' ∧ xsm (dO 1 kD aC) I I' ∧ xOp (dg m e) r (fun q => I' 1 2 = q.1 ∧ I' 1 3 = nI q.2.1 ∧ payC m q.2.1 q.2.2 e I')
set_option maxRecDepth 20000 in
theorem c_RQ_decode {l : Launch} {V : xV} {I : xIt} {J : xJt} {P : xPt} {m : Nat → Nat} {e : Nat} (hL : xL P) (hm : xMs I 2 m e) (he : e ≤ 153) : xMet l V y_RQ_decode 12 0 0 [xq (some 1), xi (nI e)] xS0 I J P (xPi (QD m e I J P)) := by
  have hbb : ∀ j, j < e → m j < 256 := fun j hj => (hm j hj).2
  have no : ∀ I', xsm (dO 1 kD aC) I I' → dg m e = none → QD m e I J P 0 I' J P := fun I' h hn => ⟨rfl, rfl, h, xOp.n hn rfl⟩
  have hmx : ∀ I', xsm (dO 1 kD aC) I I' → xMs I' 2 m e := fun I' h => hm.sm h (fun j => rfl)
  have s0 : xsm (dO 1 kD aC) I (xu (xu (xu (xu I 1 1 0) 1 9 0) 1 11 0) 6 6 0) := (((xsm.rfl.put rfl).put rfl).put rfl).put rfl
  refine e_RQ_decode (b_RQ_decode_0 hL ⟨_, c_FL_clear hL, ?_⟩)
  rintro I1 _ _ ⟨rfl, rfl, rfl⟩
  refine ⟨QE m 48 0 e _ J P, c_RQ_enter hL (hmx _ s0) he (Nat.zero_le _) (by decide) rfl, ?_⟩
  rintro r2 I2 _ _ ⟨rfl, rfl, o2⟩
  have neg1 : ∀ {r : Int32}, r = -1 → ¬ r = nI e := by
    intro r h w
    have h2 := nI_pos (n := e) (by omega)
    rw [← w, h] at h2
    exact h2 (by decide)
  cases q2 : tk m 48 255 0 e with
  | none =>
    rw [q2] at o2
    obtain ⟨h2, rfl⟩ := o2
    exact ⟨fun z => absurd z (neg1 h2), fun _ => no _ s0 (by simp [dg, q2])⟩
  | some q =>
    obtain ⟨b, u⟩ := q
    rw [q2] at o2
    obtain ⟨h2, rfl⟩ := o2
    have h2 : r2 = nI u := h2
    subst h2
    have b2 := tk_bd q2
    have s1 := s0.put (a := 1) (k := 1) (v := nI b) rfl
    refine pk_eq u e (fun hz => ?_) (fun hz => no _ s1 (by simp [dg, q2, hz]))
    subst hz
    have hdg : dg m u = fg m b u := by simp [dg, q2]
    refine ⟨QN m b u _ J P, c_RQ_readNumber hL (hmx _ s1) he (by omega) rfl, ?_⟩
    intro r3 I3 J3 P3 hq3
    obtain ⟨rfl, rfl, s3, o3⟩ := QN_op hq3
    have t3 := s1.trans (s3.O (ks' := kD) (as' := aC) rfl rfl)
    have t3' := t3.put (a := 1) (k := 2) (v := r3) rfl
    cases q3 : ig m b u with
    | none =>
      rw [q3] at o3
      have o3 : r3 = -65536 := o3
      exact ⟨fun _ => no _ t3' (by rw [hdg]; simp [fg, fm, q3]), fun z => absurd (by rw [o3]; decide) z⟩
    | some n =>
      rw [q3] at o3
      obtain ⟨h3, g1⟩ := o3
      have h3 : r3 = n.1 := h3
      have b3 := ig_bd q3
      refine ⟨fun z => no _ t3' ?_, fun z => ?_⟩
      · rw [hdg]
        simp only [fg, fm, q3, Option.bind_some]
        rw [if_neg (by rw [← h3]; exact Int32.not_le.mpr z)]
        rfl
      · have hn1 : 1 ≤ n.1 := by rw [← h3]; exact Int32.not_lt.mp z
        rw [g1]
        refine pk_lt n.2 u (fun hlt => ⟨pk_in n.2 153 (by omega), ?_⟩) (fun hlt => no _ t3' ?_)
        · have hbyte : I3 2 n.2 = nI (m n.2) := (hmx _ t3 n.2 (by omega)).1
          rw [pk_cl n.2, hbyte]
          have t4 := t3'.put (a := 1) (k := 3) (v := nI (m n.2)) rfl
          refine ⟨QE m (m n.2) n.2 u _ J P, c_RQ_enter hL (hmx _ t4) he (by omega) (hbb n.2 (by omega)) g1, ?_⟩
          rintro r5 I5 _ _ ⟨rfl, rfl, o5⟩
          cases q5 : tk m (m n.2) 255 n.2 u with
          | none =>
            rw [q5] at o5
            obtain ⟨h5, rfl⟩ := o5
            refine ⟨fun _ => no _ t4 ?_, fun w => absurd w (neg1 h5)⟩
            rw [hdg]
            simp [fg, fm, q3, hn1, tk_tl_none hbb q5]
          | some w =>
            obtain ⟨f, v⟩ := w
            rw [q5] at o5
            obtain ⟨h5, rfl⟩ := o5
            have h5 : r5 = nI v := h5
            subst h5
            have htl := tk_tl q5
            have b5 := tk_bd q5
            have t5 := t4.put (a := 1) (k := 1) (v := nI f) rfl
            refine (pk_eq v u (fun hv => ?_) (fun hv => no _ t5 (by rw [hdg]; simp [fg, fm, q3, hn1, htl, hv]))).symm
            subst hv
            have hfg : fg m b v = if fok m (m n.2) f v = true then some (n.1, m n.2, f) else none := by simp [fg, fm, q3, hn1, htl]
            have hT : xTx (xu (xu (xu I3 1 2 r3) 1 3 (nI (m n.2))) 1 1 (nI f)) [] := ⟨s3 1 9 rfl, fun i q hi => by simp at hi⟩
            have hC : xAc (xu (xu (xu I3 1 2 r3) 1 3 (nI (m n.2))) 1 1 (nI f)) [] := ⟨s3 1 11 rfl, fun i q hi => by simp at hi⟩
            refine ⟨Qc m (m n.2) f v _ J P, c_RQ_readContent hL (hmx _ t5) he (by omega) (by omega) (hbb n.2 (by omega)) rfl hT hC (s3 6 6 rfl) rfl, ?_⟩
            rintro r6 I6 _ _ ⟨rfl, rfl, s6, hr, hiff, hpay⟩
            have t6 := t5.trans (s6.O (ks' := kD) (as' := aC) rfl rfl)
            cases hf : fok m (m n.2) f v with
            | true =>
              obtain ⟨h6, h61⟩ := hiff.mpr hf
              refine ⟨fun z => absurd (h6.symm.trans z) (by decide), fun _ => ⟨fun z => absurd h61 z, fun _ => ⟨rfl, rfl, t6, xOp.s (q := (n.1, m n.2, f)) (by rw [hdg, hfg, hf]; rfl) rfl ⟨?_, ?_, hpay hf⟩⟩⟩⟩
              · exact (s6 1 2 rfl).trans h3
              · exact s6 1 3 rfl
            | false =>
              have hn : dg m v = none := by rw [hdg, hfg, hf]; rfl
              refine ⟨fun _ => no _ t6 hn, fun z => ⟨fun _ => no _ t6 hn, fun w => ?_⟩⟩
              have h6 : r6 = 1 := hr.resolve_left z
              have := hiff.mp ⟨h6, w⟩
              rw [hf] at this
              cases this
        · rw [hdg]
          have ht : tl m n.2 u = none := by simp only [tl, if_neg (show ¬ n.2 + 2 ≤ u by omega)]
          simp [fg, fm, q3, hn1, ht]

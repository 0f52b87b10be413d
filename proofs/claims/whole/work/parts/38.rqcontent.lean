/-! the class's readContent -/
abbrev kC : List Nat := [1, 4, 5, 6, 9, 11]
abbrev aC : List Nat := [3, 4, 5, 6, 7, 8, 9]
theorem iw_tl {m : Nat → Nat} {p e top par n : Nat} {A : List (Nat × Nat × Nat × Nat) × Nat} (h : iw m p e top par n = some A) : ∃ x, tl m p e = some x ∧ A.2 = x.2.2 := by
  unfold iw at h
  obtain ⟨x, hx, h⟩ := Option.bind_eq_some_iff.mp h
  refine ⟨x, hx, ?_⟩
  by_cases h6 : top = 6 ∨ n = 12
  · rw [if_pos h6] at h; cases h
  · rw [if_neg h6] at h
    by_cases hy : 160 ≤ x.1 ∧ x.1 ≤ 162
    · rw [if_pos hy] at h
      obtain ⟨L, hL, h⟩ := Option.bind_eq_some_iff.mp h
      by_cases hz : x.1 = 162 ∧ L.2 ≠ 1
      · rw [if_pos hz] at h; cases h
      · rw [if_neg hz] at h; cases h; rfl
    · rw [if_neg hy] at h
      by_cases hb : lfb m x.1 x.2.1 x.2.2 = true
      · rw [if_pos hb] at h; cases h; rfl
      · rw [if_neg hb] at h; cases h
theorem sf_tail {m : Nat → Nat} {p e : Nat} (hp : p ≤ e) (he : e ≤ 160) : ((tl m p e).bind fun x => if x.2.2 = e then (sq m 200 p e 0 0 0).bind fun R => if R.2 = 1 then some R.1 else none else none) = (iw m p e 0 0 0).bind fun A => if A.2 = e then some A.1 else none := by
  have hone := sq_one (m := m) (f := p) (u := e) (top := 0) (par := 0) (n := 0) hp he (by omega)
  have hone' : ((sq m 200 p e 0 0 0).bind fun R => if R.2 = 1 then some R.1 else none) = (iw m p e 0 0 0).bind fun A => if A.2 = e then some A.1 else none := by
    rw [← hone]
    cases sq m 200 p e 0 0 0 with
    | none => rfl
    | some L => by_cases hz : L.2 = 1 <;> simp [hz]
  cases ht : tl m p e with
  | none => simp [iw, ht]
  | some x =>
    simp only [Option.bind_some]
    by_cases hx : x.2.2 = e
    · rw [if_pos hx, hone']
    · rw [if_neg hx]
      cases hA : iw m p e 0 0 0 with
      | none => rfl
      | some A =>
        obtain ⟨y, hy, hy2⟩ := iw_tl hA
        rw [ht] at hy
        cases hy
        simp only [Option.bind_some]
        rw [if_neg (by rw [hy2]; exact hx)]
/-- what the class keeps of a request -/
def payC (m : Nat → Nat) (op f e : Nat) (I : xIt) : Prop :=
  (op = 74 → xTx I [(f, e)]) ∧
  (op = 96 → ∀ q, bf m f e = some q → I 1 4 = q.1 ∧ xTx I [q.2.1, q.2.2]) ∧
  (op = 110 → ∀ q, cf m f e = some q → xTx I [q.1, q.2.1, q.2.2]) ∧
  (op = 104 → ∀ q, af m f e = some q → xTx I (q.1 :: fla q.2.2) ∧ xAc I (q.2.2.map (fun x => x.2.length))) ∧
  (op = 102 → ∀ q, mf m f e = some q → xTx I (q.1 :: q.2.2.1 :: q.2.2.2.2) ∧ xAc I [q.2.2.2.2.length] ∧ I 1 5 = nI q.2.1) ∧
  (op = 108 → ∀ q, nf m f e = some q → xTx I [q.1, q.2.1] ∧ I 1 6 = (if q.2.2.1 = 0 then 0 else 1)) ∧
  (op = 99 → ∀ q, sf m f e = some q → xFl m I [q.1] q.2.2.2.2 ∧ I 1 5 = nI q.2.1 ∧ I 1 4 = q.2.2.1)
def Qc (m : Nat → Nat) (op f e : Nat) (I : xIt) (J : xJt) (P : xPt) : Int32 → xIt → xJt → xPt → Prop := fun r I' J' P' => J = J' ∧ P = P' ∧ xsm (dO 1 kC aC) I I' ∧ (r = 0 ∨ r = 1) ∧ ((r = 1 ∧ I' 1 1 = nI e) ↔ fok m op f e = true) ∧ (fok m op f e = true → payC m op f e I')
theorem nI_nj {a b : Nat} (ha : a ≤ 200) (hb : b ≤ 200) (h : ¬ a = b) : ¬ nI a = nI b := fun z => h ((nI_eq (by omega) (by omega)).mp z)
set_option maxRecDepth 20000 in
set_option maxHeartbeats 4000000 in
theorem c_RQ_readContent {l : Launch} {V : xV} {I : xIt} {J : xJt} {P : xPt} {m : Nat → Nat} {op p e : Nat} (hL : xL P) (hm : xMs I 2 m e) (he : e ≤ 153) (hp : p ≤ e) (h7 : 7 ≤ p) (hop : op < 256) (hk : I 1 3 = nI op) (hT : xTx I []) (hC : xAc I []) (h66 : I 6 6 = nI 0) (hat : I 1 1 = nI p) : xMet l V y_RQ_readContent 11 0 0 [xq (some 1), xi (nI e)] xS0 I J P (xPi (Qc m op p e I J P)) := by
  have hbb : ∀ j, j < e → m j < 256 := fun j hj => (hm j hj).2
  have no : ∀ I', xsm (dO 1 kC aC) I I' → fok m op p e = false → Qc m op p e I J P 0 I' J P := fun I' h hf => ⟨rfl, rfl, h, Or.inl rfl, ⟨fun z => absurd z.1 (by decide), fun z => by rw [hf] at z; cases z⟩, fun z => by rw [hf] at z; cases z⟩
  have no1 : ∀ I' (a : Nat), xsm (dO 1 kC aC) I I' → fok m op p e = false → I' 1 1 = nI a → a ≤ e → ¬ a = e → Qc m op p e I J P 1 I' J P := fun I' a h hf h1 ha hne => ⟨rfl, rfl, h, Or.inr rfl, ⟨fun z => absurd (h1.symm.trans z.2) (nI_nj (by omega) (by omega) hne), fun z => by rw [hf] at z; cases z⟩, fun z => by rw [hf] at z; cases z⟩
  have yes : ∀ I', xsm (dO 1 kC aC) I I' → fok m op p e = true → I' 1 1 = nI e → payC m op p e I' → Qc m op p e I J P 1 I' J P := fun I' h hf h1 hp => ⟨rfl, rfl, h, Or.inr rfl, ⟨fun _ => hf, fun _ => ⟨rfl, h1⟩⟩, fun _ => hp⟩
  have cv : ∀ k, k < 256 → nI op = nI k → op = k := fun k hk h => (nI_eq (by omega) (by omega)).mp h
  have hmx : ∀ I', xsm (dO 1 kC aC) I I' → xMs I' 2 m e := fun I' h => hm.sm h (fun j => rfl)
  refine e_RQ_readContent (b_RQ_readContent_0 hL ?_)
  rw [hk]
  refine ⟨fun c => ?_, fun c => ?_, fun c => ?_, fun c => ?_, fun c => ?_, fun c => ?_, fun c => ?_, fun c => ?_, fun c1 c2 c3 c4 c5 c6 c7 c8 => ?_⟩
  · -- UNBIND
    have h := cv 66 (by omega) c
    subst h
    refine (pk_eq p e (fun z => yes _ xsm.rfl (by simp [fok, z]) (by rw [hat, z]) ⟨fun w => absurd w (by decide), fun w => absurd w (by decide), fun w => absurd w (by decide), fun w => absurd w (by decide), fun w => absurd w (by decide), fun w => absurd w (by decide), fun w => absurd w (by decide)⟩) (fun z => no _ xsm.rfl (by simp [fok, z])) hat).symm
  · -- DELETE
    have h := cv 74 (by omega) c
    subst h
    refine ⟨_, c_RQ_takeText (p := p) (u := e) (T := []) hL hp he hT (by decide) hat, ?_⟩
    rintro r1 I1 _ _ ⟨rfl, rfl, s1, o1⟩
    have t1 := s1.O (ks' := kC) (as' := aC) rfl rfl
    by_cases hc : e - p ≤ 30
    · rw [if_pos hc] at o1
      obtain ⟨rfl, g1, g2⟩ := o1
      exact ⟨Or.inr rfl, yes _ t1 (by simp [fok, hc]) g1 ⟨fun _ => g2, fun w => absurd w (by decide), fun w => absurd w (by decide), fun w => absurd w (by decide), fun w => absurd w (by decide), fun w => absurd w (by decide), fun w => absurd w (by decide)⟩⟩
    · rw [if_neg hc] at o1
      subst o1
      exact ⟨Or.inl rfl, no _ t1 (by simp [fok, hc])⟩
  · -- BIND
    have h := cv 96 (by omega) c
    subst h
    refine ⟨_, c_RQ_readVersion hL hm he hp hat, ?_⟩
    rintro r1 I1 _ _ ⟨rfl, rfl, s1, o1⟩
    have t1 := s1.O (ks' := kC) (as' := aC) rfl rfl
    refine x_op o1 (fun q1 => no _ t1 (by simp [fok, bf, q1])) (fun n q1 a1 => ?_)
    have b1 := ig_bd q1
    refine ⟨QX m 4 n.2 e [] I1 J P, c_RQ_readText hL (hmx _ t1) he b1.2 (by decide) (hT.sm s1 rfl (fun _ => rfl) (fun _ => rfl)) (by decide) a1.2, ?_⟩
    intro r2 I2 J2 P2 hq2
    obtain ⟨rfl, rfl, s2, o2⟩ := QX_op hq2
    have t2 := t1.trans (s2.O (ks' := kC) (as' := aC) rfl rfl)
    refine x_op o2 (fun q2 => no _ t2 (by simp [fok, bf, q1, q2])) (fun A q2 a2 => ?_)
    have b2 := tk_bd (f := A.1) (u := A.2) q2
    refine ⟨QX m 128 A.2 e [A] I2 J P, c_RQ_readText hL (hmx _ t2) he (by omega) (by decide) a2.2 (by simp) a2.1, ?_⟩
    intro r3 I3 J3 P3 hq3
    obtain ⟨rfl, rfl, s3, o3⟩ := QX_op hq3
    have t3 := t2.trans (s3.O (ks' := kC) (as' := aC) rfl rfl)
    refine x_op o3 (fun q3 => no _ t3 (by simp [fok, bf, q1, q2, q3])) (fun C q3 a3 => ?_)
    have b3 := tk_bd (f := C.1) (u := C.2) q3
    have hbf : bf m p e = some (n.1, A, C) := by simp [bf, q1, q2, q3]
    by_cases hz : C.2 = e
    · refine yes _ t3 (by simp [fok, hbf, hz]) (by rw [a3.1, hz]) ⟨fun w => absurd w (by decide), fun _ q hq => ?_, fun w => absurd w (by decide), fun w => absurd w (by decide), fun w => absurd w (by decide), fun w => absurd w (by decide), fun w => absurd w (by decide)⟩
      rw [hbf] at hq
      cases hq
      exact ⟨(s3 1 4 rfl).trans ((s2 1 4 rfl).trans a1.1), a3.2⟩
    · exact no1 _ C.2 t3 (by simp [fok, hbf, hz]) a3.1 b3.2.2.2.2.1 hz
  · -- SEARCH
    have h := cv 99 (by omega) c
    subst h
    refine ⟨QX m 4 p e [] I J P, c_RQ_readText hL hm he hp (by decide) hT (by decide) hat, ?_⟩
    intro r1 I1 J1 P1 hq1
    obtain ⟨rfl, rfl, s1, o1⟩ := QX_op hq1
    have t1 := s1.O (ks' := kC) (as' := aC) rfl rfl
    refine x_op o1 (fun q1 => no _ t1 (by simp [fok, sf, q1])) (fun A q1 a1 => ?_)
    have b1 := tk_bd (f := A.1) (u := A.2) q1
    refine ⟨_, c_RQ_readChoice hL (hmx _ t1) he (by omega) a1.1, ?_⟩
    rintro r2 I2 _ _ ⟨rfl, rfl, s2, o2⟩
    have t2 := t1.trans (s2.O (ks' := kC) (as' := aC) rfl rfl)
    refine x_op o2 (fun q2 => no _ t2 ?_) (fun cc q2 a2 => ?_)
    · cases hs : sg m 10 A.2 e with
      | none => simp [fok, sf, q1, hs]
      | some v =>
        have hv : ¬ v.1 ≤ 2 := fun z => by simp [hs, z] at q2
        simp [fok, sf, q1, hs, hv]
    · obtain ⟨cc', hs, q2'⟩ := Option.bind_eq_some_iff.mp q2
      have hc2 : cc'.1 ≤ 2 := Decidable.byContradiction fun z => by rw [if_neg z] at q2'; cases q2'
      rw [if_pos hc2] at q2'
      cases q2'
      have b2 := sg_bd hbb hs
      refine ⟨_, c_RQ_readLimit hL (hmx _ t2) he (by omega) a2.2, ?_⟩
      rintro r3 I3 _ _ ⟨rfl, rfl, s3, o3⟩
      have t3 := t2.trans (s3.O (ks' := kC) (as' := aC) rfl rfl)
      refine x_op o3 (fun q3 => no _ t3 ?_) (fun n q3 a3 => ?_)
      · cases hi : ig m cc.2 e with
        | none => simp [fok, sf, q1, hs, hc2, hi]
        | some v =>
          have hv : ¬ 0 ≤ v.1 := fun z => by simp [hi, z] at q3
          simp [fok, sf, q1, hs, hc2, hi, hv]
      · obtain ⟨n', hi, q3'⟩ := Option.bind_eq_some_iff.mp q3
        have hn0 : 0 ≤ n'.1 := Decidable.byContradiction fun z => by rw [if_neg z] at q3'; cases q3'
        rw [if_pos hn0] at q3'
        cases q3'
        have b3 := ig_bd hi
        have g9 : xTx I3 [A] := (a1.2.sm s2 rfl (fun _ => rfl) (fun _ => rfl)).sm s3 rfl (fun _ => rfl) (fun _ => rfl)
        have hF3 : xFl m I3 [A] [] := ⟨(s3 6 6 rfl).trans ((s2 6 6 rfl).trans ((s1 6 6 rfl).trans h66)), by simpa using g9, fun i x hx => by simp at hx⟩
        rw [show (-1 : Int32) = nI 0 - 1 from by decide]
        refine ⟨_, c_RQ_readFilter (m := m) hL 6 0 rfl n.2 e 0 [A] [] I3 he b3.2 (hmx _ t3) hF3 (by simp) (by simp; omega) a3.2, ?_⟩
        rintro r4 I4 _ _ ⟨rfl, rfl, s4, o4⟩
        have t4 := t3.trans (s4.O (ks' := kC) (as' := aC) rfl rfl)
        have htail := sf_tail (m := m) (p := n.2) (e := e) b3.2 (by omega)
        have hsf : sf m p e = ((iw m n.2 e 0 0 0).bind fun B => if B.2 = e then some B.1 else none).map (fun R => (A, cc.1, n.1, n.2, R)) := by
          rw [← htail]
          simp only [sf, q1, hs, hi, Option.bind_some, if_pos hc2, if_pos hn0]
          cases tl m n.2 e with
          | none => rfl
          | some x =>
            simp only [Option.bind_some]
            by_cases hx : x.2.2 = e
            · rw [if_pos hx, if_pos hx]
              cases sq m 200 n.2 e 0 0 0 with
              | none => rfl
              | some R => by_cases hR : R.2 = 1 <;> simp [hR]
            · rw [if_neg hx, if_neg hx]
              rfl
        refine x_op o4 (fun q4 => no _ t4 ?_) (fun B q4 a4 => ?_)
        · have q4 : iw m n.2 e 0 0 0 = none := q4
          simp [fok, hsf, q4]
        · have q4 : iw m n.2 e 0 0 0 = some B := q4
          have bB := iw_bd (by omega) q4
          by_cases hz : B.2 = e
          · have hsf2 : sf m p e = some (A, cc.1, n.1, n.2, B.1) := by rw [hsf, q4]; simp [hz]
            refine yes _ t4 (by simp [fok, hsf2]) (by rw [a4.1, hz]) ⟨fun w => absurd w (by decide), fun w => absurd w (by decide), fun w => absurd w (by decide), fun w => absurd w (by decide), fun w => absurd w (by decide), fun w => absurd w (by decide), fun _ q hq => ?_⟩
            rw [hsf2] at hq
            cases hq
            exact ⟨by simpa using a4.2.1, (s4 1 5 rfl).trans ((s3 1 5 rfl).trans a2.1), (s4 1 4 rfl).trans a3.1⟩
          · exact no1 _ B.2 t4 (by simp [fok, hsf, q4, hz]) a4.1 bB.2.1 hz
  · -- MODIFY
    have h := cv 102 (by omega) c
    subst h
    refine ⟨QX m 4 p e [] I J P, c_RQ_readText hL hm he hp (by decide) hT (by decide) hat, ?_⟩
    intro r1 I1 J1 P1 hq1
    obtain ⟨rfl, rfl, s1, o1⟩ := QX_op hq1
    have t1 := s1.O (ks' := kC) (as' := aC) rfl rfl
    refine x_op o1 (fun q1 => no _ t1 (by simp [fok, mf, q1])) (fun A q1 a1 => ?_)
    have b1 := tk_bd (f := A.1) (u := A.2) q1
    refine ⟨_, c_RQ_readChoice hL (hmx _ t1) he (by omega) a1.1, ?_⟩
    rintro r2 I2 _ _ ⟨rfl, rfl, s2, o2⟩
    have t2 := t1.trans (s2.O (ks' := kC) (as' := aC) rfl rfl)
    refine x_op o2 (fun q2 => no _ t2 ?_) (fun cc q2 a2 => ?_)
    · cases hs : sg m 10 A.2 e with
      | none => simp [fok, mf, q1, hs]
      | some v =>
        have hv : ¬ v.1 ≤ 2 := fun z => by simp [hs, z] at q2
        simp [fok, mf, q1, hs, hv]
    · obtain ⟨cc', hs, q2'⟩ := Option.bind_eq_some_iff.mp q2
      have hc2 : cc'.1 ≤ 2 := Decidable.byContradiction fun z => by rw [if_neg z] at q2'; cases q2'
      rw [if_pos hc2] at q2'
      cases q2'
      have b2 := sg_bd hbb hs
      have g9 : xTx I2 [A] := a1.2.sm s2 rfl (fun _ => rfl) (fun _ => rfl)
      refine ⟨QX m 4 cc.2 e [A] I2 J P, c_RQ_readText hL (hmx _ t2) he (by omega) (by decide) g9 (by simp) a2.2, ?_⟩
      intro r3 I3 J3 P3 hq3
      obtain ⟨rfl, rfl, s3, o3⟩ := QX_op hq3
      have t3 := t2.trans (s3.O (ks' := kC) (as' := aC) rfl rfl)
      refine x_op o3 (fun q3 => no _ t3 (by simp [fok, mf, q1, hs, hc2, q3])) (fun B q3 a3 => ?_)
      have b3 := tk_bd (f := B.1) (u := B.2) q3
      have hC3 : xAc I3 [] := ((hC.sm s1 rfl (fun _ => rfl)).sm s2 rfl (fun _ => rfl)).sm s3 rfl (fun _ => rfl)
      refine ⟨_, c_RQ_readValues (T := [A] ++ [B]) (C := []) hL (hmx _ t3) he (by omega) a3.2 hC3 (by simp; omega) (by decide) a3.1, ?_⟩
      rintro r4 I4 _ _ ⟨rfl, rfl, s4, o4⟩
      have t4 := t3.trans (s4.O (ks' := kC) (as' := aC) rfl rfl)
      refine x_op o4 (fun q4 => no _ t4 ?_) (fun q q4 a4 => ?_)
      · cases hW : tk m 49 255 B.2 e with
        | none => simp [fok, mf, q1, hs, hc2, q3, hW]
        | some W =>
          have hvl : vl m 8 W.1 W.2 = none := by simpa [rv, hW] using q4
          by_cases hw : W.2 = e
          · simp [fok, mf, q1, hs, hc2, q3, hW, if_pos hw, hvl]
          · simp [fok, mf, q1, hs, hc2, q3, hW, if_neg hw]
      · obtain ⟨u, L⟩ := q
        obtain ⟨W, hW, hq4⟩ := Option.bind_eq_some_iff.mp q4
        obtain ⟨L', hvl, hq4⟩ := Option.map_eq_some_iff.mp hq4
        cases hq4
        have bW := tk_bd (f := W.1) (u := W.2) hW
        by_cases hw : W.2 = e
        · have hmf : mf m p e = some (A, cc.1, B, W, L) := by simp [mf, q1, hs, hc2, q3, hW, if_pos hw, hvl]
          refine yes _ t4 (by simp [fok, hmf]) (by rw [a4.1, hw]) ⟨fun w => absurd w (by decide), fun w => absurd w (by decide), fun w => absurd w (by decide), fun w => absurd w (by decide), fun _ q hq => ?_, fun w => absurd w (by decide), fun w => absurd w (by decide)⟩
          rw [hmf] at hq
          cases hq
          exact ⟨by simpa using a4.2.1, by simpa using a4.2.2, (s4 1 5 rfl).trans ((s3 1 5 rfl).trans a2.1)⟩
        · exact no1 _ W.2 t4 (by simp [fok, mf, q1, hs, hc2, q3, hW, if_neg hw]) a4.1 bW.2.2.2.2.1 hw
  · -- ADD
    have h := cv 104 (by omega) c
    subst h
    refine ⟨QX m 4 p e [] I J P, c_RQ_readText hL hm he hp (by decide) hT (by decide) hat, ?_⟩
    intro r1 I1 J1 P1 hq1
    obtain ⟨rfl, rfl, s1, o1⟩ := QX_op hq1
    have t1 := s1.O (ks' := kC) (as' := aC) rfl rfl
    refine x_op o1 (fun q1 => no _ t1 (by simp [fok, af, q1])) (fun A q1 a1 => ?_)
    have b1 := tk_bd (f := A.1) (u := A.2) q1
    refine ⟨QE m 48 A.2 e I1 J P, c_RQ_enter hL (hmx _ t1) he (by omega) (by decide) a1.1, ?_⟩
    rintro r2 I2 _ _ ⟨rfl, rfl, o2⟩
    cases q2 : tk m 48 255 A.2 e with
    | none =>
      rw [q2] at o2
      obtain ⟨rfl, rfl⟩ := o2
      exact ⟨fun _ => no _ t1 (by simp [fok, af, q1, q2]), fun z => absurd z (by
        intro w
        have := nI_pos (n := e) (by omega)
        rw [← w] at this
        exact this (by decide))⟩
    | some C =>
      rw [q2] at o2
      obtain ⟨rfl, rfl⟩ := o2
      have b2 := tk_bd (f := C.1) (u := C.2) q2
      have t2 := t1.put (a := 1) (k := 1) (v := nI C.1) rfl
      refine (pk_eq C.2 e (fun hz => ?_) (fun hz => no _ t2 (by simp [fok, af, q1, q2, if_neg hz]))).symm
      have hC2 : xAc (xu I1 1 1 (nI C.1)) [] := (hC.sm s1 rfl (fun _ => rfl)).sm (xsm.rfl.put (D := dO 1 [1] []) rfl) rfl (fun _ => rfl)
      refine ⟨_, c_RQ_readAttributes (p := C.1) (T := [A]) hL (hmx _ t2) he (by omega) ⟨a1.2.1, a1.2.2⟩ hC2 (by simp; omega) (by omega) rfl, ?_⟩
      rintro r3 I3 _ _ ⟨rfl, rfl, s3, o3⟩
      have t3 := t2.trans (s3.O (ks' := kC) (as' := aC) rfl rfl)
      refine x_op o3 (fun q3 => no _ t3 (by simp [fok, af, q1, q2, if_pos hz, q3])) (fun t q3 a3 => ?_)
      have haf : af m p e = some (A, C, t) := by simp [af, q1, q2, if_pos hz, q3]
      refine yes _ t3 (by simp [fok, haf]) a3.1 ⟨fun w => absurd w (by decide), fun w => absurd w (by decide), fun w => absurd w (by decide), fun _ q hq => ?_, fun w => absurd w (by decide), fun w => absurd w (by decide), fun w => absurd w (by decide)⟩
      rw [haf] at hq
      cases hq
      exact ⟨by simpa using a3.2.1, a3.2.2⟩
  · -- RENAME
    have h := cv 108 (by omega) c
    subst h
    refine ⟨QX m 4 p e [] I J P, c_RQ_readText hL hm he hp (by decide) hT (by decide) hat, ?_⟩
    intro r1 I1 J1 P1 hq1
    obtain ⟨rfl, rfl, s1, o1⟩ := QX_op hq1
    have t1 := s1.O (ks' := kC) (as' := aC) rfl rfl
    refine x_op o1 (fun q1 => no _ t1 (by simp [fok, nf, q1])) (fun A q1 a1 => ?_)
    have b1 := tk_bd (f := A.1) (u := A.2) q1
    refine ⟨QX m 4 A.2 e [A] I1 J P, c_RQ_readText hL (hmx _ t1) he (by omega) (by decide) a1.2 (by simp) a1.1, ?_⟩
    intro r2 I2 J2 P2 hq2
    obtain ⟨rfl, rfl, s2, o2⟩ := QX_op hq2
    have t2 := t1.trans (s2.O (ks' := kC) (as' := aC) rfl rfl)
    refine x_op o2 (fun q2 => no _ t2 (by simp [fok, nf, q1, q2])) (fun B q2 a2 => ?_)
    have b2 := tk_bd (f := B.1) (u := B.2) q2
    refine ⟨_, c_RQ_readFlag hL (hmx _ t2) he (by omega) a2.1, ?_⟩
    rintro r3 I3 _ _ ⟨rfl, rfl, s3, o3⟩
    have t3 := t2.trans (s3.O (ks' := kC) (as' := aC) rfl rfl)
    refine x_op o3 (fun q3 => no _ t3 (by simp [fok, nf, q1, q2, q3])) (fun v q3 a3 => ?_)
    have b3 := sg_bd hbb q3
    have hnf : nf m p e = some (A, B, v) := by simp [nf, q1, q2, q3]
    by_cases hz : v.2 = e
    · refine yes _ t3 (by simp [fok, hnf, hz]) (by rw [a3.2, hz]) ⟨fun w => absurd w (by decide), fun w => absurd w (by decide), fun w => absurd w (by decide), fun w => absurd w (by decide), fun w => absurd w (by decide), fun _ q hq => ?_, fun w => absurd w (by decide)⟩
      rw [hnf] at hq
      cases hq
      exact ⟨a2.2.sm s3 rfl (fun _ => rfl) (fun _ => rfl), a3.1⟩
    · exact no1 _ v.2 t3 (by simp [fok, hnf, hz]) a3.2 b3.2.1 hz
  · -- COMPARE
    have h := cv 110 (by omega) c
    subst h
    refine ⟨QX m 4 p e [] I J P, c_RQ_readText hL hm he hp (by decide) hT (by decide) hat, ?_⟩
    intro r1 I1 J1 P1 hq1
    obtain ⟨rfl, rfl, s1, o1⟩ := QX_op hq1
    have t1 := s1.O (ks' := kC) (as' := aC) rfl rfl
    refine x_op o1 (fun q1 => no _ t1 (by simp [fok, cf, q1])) (fun A q1 a1 => ?_)
    have b1 := tk_bd (f := A.1) (u := A.2) q1
    refine ⟨QE m 48 A.2 e I1 J P, c_RQ_enter hL (hmx _ t1) he (by omega) (by decide) a1.1, ?_⟩
    rintro r2 I2 _ _ ⟨rfl, rfl, o2⟩
    cases q2 : tk m 48 255 A.2 e with
    | none =>
      rw [q2] at o2
      obtain ⟨rfl, rfl⟩ := o2
      exact ⟨fun _ => no _ t1 (by simp [fok, cf, q1, q2]), fun z => absurd z (by
        intro w
        have := nI_pos (n := e) (by omega)
        rw [← w] at this
        exact this (by decide))⟩
    | some S =>
      rw [q2] at o2
      obtain ⟨rfl, rfl⟩ := o2
      have b2 := tk_bd (f := S.1) (u := S.2) q2
      have t2 := t1.put (a := 1) (k := 1) (v := nI S.1) rfl
      refine (pk_eq S.2 e (fun hz => ?_) (fun hz => no _ t2 (by simp [fok, cf, q1, q2, if_neg hz]))).symm
      refine ⟨QX m 4 S.1 e [A] _ J P, c_RQ_readText hL (hmx _ t2) he (by omega) (by decide) ⟨a1.2.1, a1.2.2⟩ (by simp) rfl, ?_⟩
      intro r3 I3 J3 P3 hq3
      obtain ⟨rfl, rfl, s3, o3⟩ := QX_op hq3
      have t3 := t2.trans (s3.O (ks' := kC) (as' := aC) rfl rfl)
      refine x_op o3 (fun q3 => no _ t3 (by simp [fok, cf, q1, q2, if_pos hz, q3])) (fun B q3 a3 => ?_)
      have b3 := tk_bd (f := B.1) (u := B.2) q3
      refine ⟨QX m 4 B.2 e ([A] ++ [B]) I3 J P, c_RQ_readText hL (hmx _ t3) he (by omega) (by decide) a3.2 (by simp) a3.1, ?_⟩
      intro r4 I4 J4 P4 hq4
      obtain ⟨rfl, rfl, s4, o4⟩ := QX_op hq4
      have t4 := t3.trans (s4.O (ks' := kC) (as' := aC) rfl rfl)
      refine x_op o4 (fun q4 => no _ t4 (by simp [fok, cf, q1, q2, if_pos hz, q3, q4])) (fun C q4 a4 => ?_)
      have b4 := tk_bd (f := C.1) (u := C.2) q4
      by_cases hw : C.2 = e
      · have hcf : cf m p e = some (A, B, C) := by simp [cf, q1, q2, if_pos hz, q3, q4, if_pos hw]
        refine yes _ t4 (by simp [fok, hcf]) (by rw [a4.1, hw]) ⟨fun w => absurd w (by decide), fun w => absurd w (by decide), fun _ q hq => ?_, fun w => absurd w (by decide), fun w => absurd w (by decide), fun w => absurd w (by decide), fun w => absurd w (by decide)⟩
        rw [hcf] at hq
        cases hq
        simpa using a4.2
      · exact no1 _ C.2 t4 (by simp [fok, cf, q1, q2, if_pos hz, q3, q4, if_neg hw]) a4.1 b4.2.2.2.2.1 hw
  · have n1 : ¬ op = 66 := fun z => c1 (by rw [z]; rfl)
    have n2 : ¬ op = 74 := fun z => c2 (by rw [z]; rfl)
    have n3 : ¬ op = 96 := fun z => c3 (by rw [z]; rfl)
    have n4 : ¬ op = 99 := fun z => c4 (by rw [z]; rfl)
    have n5 : ¬ op = 102 := fun z => c5 (by rw [z]; rfl)
    have n6 : ¬ op = 104 := fun z => c6 (by rw [z]; rfl)
    have n7 : ¬ op = 108 := fun z => c7 (by rw [z]; rfl)
    have n8 : ¬ op = 110 := fun z => c8 (by rw [z]; rfl)
    exact no _ xsm.rfl (by simp [fok, n1, n2, n3, n4, n5, n6, n7, n8])

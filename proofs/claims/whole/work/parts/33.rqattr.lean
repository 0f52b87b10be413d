/-! the class's attributes of ADD -/
theorem vl_bd (m : Nat → Nat) : ∀ (k p e : Nat) (L : List (Nat × Nat)), p ≤ e → vl m k p e = some L → p + 2 * L.length ≤ e ∧ (L = [] → e ≤ p) := by
  intro k
  induction k with
  | zero =>
    intro p e L hp h
    by_cases hc : e ≤ p
    · simp only [vl, if_pos hc] at h
      cases h
      exact ⟨hp, fun _ => hc⟩
    · simp only [vl, if_neg hc] at h
      cases h
  | succ k ih =>
    intro p e L hp h
    by_cases hc : e ≤ p
    · simp only [vl, if_pos hc] at h
      cases h
      exact ⟨hp, fun _ => hc⟩
    · simp only [vl, if_neg hc] at h
      cases hq : tk m 4 30 p e with
      | none => rw [hq] at h; cases h
      | some q =>
        rw [hq] at h
        have b := tk_bd (f := q.1) (u := q.2) hq
        obtain ⟨L', hL', rfl⟩ := Option.map_eq_some_iff.mp h
        have i := ih q.2 e L' (by omega) hL'
        refine ⟨?_, fun z => by cases z⟩
        simp only [List.length_cons]
        omega
def fla (t : List ((Nat × Nat) × List (Nat × Nat))) : List (Nat × Nat) := t.flatMap (fun x => x.1 :: x.2)
theorem fla_app (t : List ((Nat × Nat) × List (Nat × Nat))) (B : Nat × Nat) (L : List (Nat × Nat)) : fla (t ++ [(B, L)]) = fla t ++ (B :: L) := by simp [fla]
def Qat (m : Nat → Nat) (p e : Nat) (T : List (Nat × Nat)) (I : xIt) (J : xJt) (P : xPt) : Int32 → xIt → xJt → xPt → Prop := fun r I' J' P' => J = J' ∧ P = P' ∧ xsm (dO 1 [1, 9, 11] [3, 4, 5]) I I' ∧ xOp (al m 160 p e) r (fun t => I' 1 1 = nI e ∧ xTx I' (T ++ fla t) ∧ xAc I' (t.map (fun x => x.2.length)))
set_option maxRecDepth 20000 in
theorem c_RQ_readAttributes {l : Launch} {V : xV} {I : xIt} {J : xJt} {P : xPt} {m : Nat → Nat} {p e : Nat} {T : List (Nat × Nat)} (hL : xL P) (hm : xMs I 2 m e) (he : e ≤ 153) (hp : p ≤ e) (hT : xTx I T) (hC : xAc I []) (hl : 2 * T.length + 9 ≤ p) (h11 : 11 ≤ p) (hat : I 1 1 = nI p) : xMet l V y_RQ_readAttributes 4 0 0 [xq (some 1), xi (nI e)] xS0 I J P (xPi (Qat m p e T I J P)) := by
  have loop : ∀ (k : Nat) (t0 : List ((Nat × Nat) × List (Nat × Nat))) (p1 : Nat) (I1 : xIt), e - p1 ≤ k → p1 ≤ e → 8 * t0.length + 11 ≤ p1 → 2 * (T ++ fla t0).length + 9 ≤ p1 → xsm (dO 1 [1, 9, 11] [3, 4, 5]) I I1 → I1 1 1 = nI p1 → xTx I1 (T ++ fla t0) → xAc I1 (t0.map (fun x => x.2.length)) → (al m 160 p e = (al m k p1 e).map (fun t => t0 ++ t)) → G_RQ_readAttributes l V (Qat m p e T I J P) 2 [(0, xq (some 1)), (1, xi (nI e)), (2, xi (nI t0.length))] [] I1 J P := by
    intro k
    induction k with
    | zero =>
      intro t0 p1 I1 hk hp1 h8 h2 hs h1 hT1 hC1 hv
      have hpe : p1 = e := by omega
      subst hpe
      refine b_RQ_readAttributes_2 hL (pk_le 18 t0.length (fun c => by omega) (fun _ => ?_))
      rw [h1]
      refine pk_le p1 p1 (fun _ => ⟨fun z => absurd rfl z, fun _ => ⟨rfl, rfl, hs, xOp.s (q := t0) ?_ rfl ⟨h1, hT1, hC1⟩⟩⟩) (fun c => by omega)
      rw [hv]
      simp only [al, if_pos (Nat.le_refl p1), Option.map_some, List.append_nil]
    | succ k ih =>
      intro t0 p1 I1 hk hp1 h8 h2 hs h1 hT1 hC1 hv
      refine b_RQ_readAttributes_2 hL (pk_le 18 t0.length (fun c => by omega) (fun _ => ?_))
      rw [h1]
      refine pk_le e p1 (fun c => ?_) (fun c => ?_)
      · have hpe : p1 = e := by omega
        subst hpe
        refine ⟨fun z => absurd rfl z, fun _ => ⟨rfl, rfl, hs, xOp.s (q := t0) ?_ rfl ⟨h1, hT1, hC1⟩⟩⟩
        rw [hv]
        simp only [al, if_pos (Nat.le_refl p1), Option.map_some, List.append_nil]
      · have hne : ¬ e ≤ p1 := by omega
        have bad : ∀ I', xsm (dO 1 [1, 9, 11] [3, 4, 5]) I I' → al m (k + 1) p1 e = none → Qat m p e T I J P 0 I' J P := fun I' h hn => ⟨rfl, rfl, h, xOp.n (by rw [hv, hn]; rfl) rfl⟩
        refine ⟨QE m 48 p1 e I1 J P, c_RQ_enter hL (hm.sm hs (fun j => rfl)) he hp1 (by decide) h1, ?_⟩
        rintro r I2 _ _ ⟨rfl, rfl, o⟩
        refine x_on o (fun q hq => by have := tk_bd (f := q.1) (u := q.2) hq; omega) (fun hn _ hI => bad _ (by rw [hI]; exact hs) (by simp [al, hne, hn])) (fun q hq hr hI => ?_)
        subst hI
        obtain ⟨s1, s2⟩ := q
        have hr : r = nI s2 := hr
        subst hr
        have b := tk_bd hq
        have t2 := hs.put (a := 1) (k := 1) (v := nI s1) rfl
        have hmx : ∀ I', xsm (dO 1 [1, 9, 11] [3, 4, 5]) I I' → xMs I' 2 m s2 := fun I' h j hj => hm.sm h (fun j => rfl) j (by omega)
        refine ⟨QX m 4 s1 s2 (T ++ fla t0) _ J P, c_RQ_readText hL (hmx _ t2) (by omega) (by omega) (by decide) ⟨hT1.1, hT1.2⟩ (by omega) rfl, ?_⟩
        intro r3 I3 J3 P3 hq3
        obtain ⟨rfl, rfl, s3, o3⟩ := QX_op hq3
        have t3 := t2.trans (s3.O (ks' := [1, 9, 11]) (as' := [3, 4, 5]) rfl rfl)
        refine x_op o3 (fun q3 => bad _ t3 (by simp [al, hne, hq, q3])) (fun B q3 a3 => ?_)
        have b3 := tk_bd (f := B.1) (u := B.2) q3
        have hC3 : xAc I3 (t0.map (fun x => x.2.length)) := ⟨(s3 1 11 rfl).trans hC1.1, fun i c hi => (s3 5 i rfl).trans (hC1.2 i c hi)⟩
        refine ⟨_, c_RQ_readValues (T := T ++ fla t0 ++ [B]) hL (hmx _ t3) (by omega) (by omega) a3.2 hC3 (by simp; simp at h2; omega) (by simp; omega) a3.1, ?_⟩
        rintro r4 I4 _ _ ⟨rfl, rfl, s4, o4⟩
        have t4 := t3.trans s4
        refine (x_op o4 (fun q4 => bad _ t4 ?_) (fun q q4 a4 => ?_)).symm
        · cases hW : tk m 49 255 B.2 s2 with
          | none => simp [al, hne, hq, q3, hW]
          | some W =>
            have hvl : vl m 8 W.1 W.2 = none := by simpa [rv, hW] using q4
            by_cases hw : W.2 = s2
            · by_cases hw1 : W.1 = W.2
              · simp [al, hne, hq, q3, hW, hw1]
              · rw [hw] at hvl
                simp [al, hne, hq, q3, hW, hw, hvl]
            · simp [al, hne, hq, q3, hW, hw]
        · obtain ⟨u, L⟩ := q
          obtain ⟨W, hW, hq4⟩ := Option.bind_eq_some_iff.mp q4
          obtain ⟨L', hvl, hq4⟩ := Option.map_eq_some_iff.mp hq4
          cases hq4
          have bW := tk_bd (f := W.1) (u := W.2) hW
          have bv := vl_bd m 8 W.1 W.2 L bW.2.2.2.1 hvl
          rw [a4.1]
          refine (pk_eq W.2 s2 (fun hw => ⟨pk_in t0.length 18 (by omega), ?_⟩) (fun hw => bad _ t4 (by simp [al, hne, hq, q3, hW, hw]))).symm
          have h5 : I4 5 t0.length = nI L.length := a4.2.2.2 t0.length L.length (by simp)
          rw [pk_cl t0.length, h5]
          refine (pk_eq L.length 0 (fun h0 => bad _ t4 ?_) (fun h0 => ?_)).symm
          · have hle := bv.2 (List.length_eq_zero_iff.mp h0)
            have hw1 : W.1 = W.2 := by omega
            simp [al, hne, hq, q3, hW, hw1]
          · have hw1 : ¬ W.1 = W.2 := by omega
            rw [nI_1]
            have hh := ih (t0 ++ [(B, L)]) s2 I4 (by omega) (by omega) (by simp; omega) (by rw [fla_app]; simp; simp at h2; omega) t4 (by rw [a4.1, hw]) (by rw [fla_app]; simpa using a4.2.1) (by simpa using a4.2.2) (by
              rw [hv]
              simp only [al, if_neg hne, hq, q3, hW, Option.bind_some, if_pos hw, if_neg hw1]
              rw [← hw, hvl]
              simp only [Option.bind_some, hw]
              cases al m k s2 e <;> simp)
            rw [show (t0 ++ [(B, L)]).length = t0.length + 1 from by simp] at hh
            exact hh
  refine e_RQ_readAttributes (b_RQ_readAttributes_0 hL ?_)
  exact loop 160 [] p I (by omega) hp (by simp; omega) (by simp [fla]; omega) xsm.rfl hat (by simpa [fla] using hT) (by simpa using hC) (by cases al m 160 p e <;> rfl)

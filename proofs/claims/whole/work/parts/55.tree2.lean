/-! the class's tree: a copy more, an entry less -/
theorem fz_no {a k : Nat} (h : xPL.all (fun q => !(q.1.1 == a)) = true) : xFz a k = false := by
  unfold xFz
  cases hl : xPL.lookup (a, k) with
  | none => rfl
  | some r =>
    exfalso
    have key : ∀ (T : List ((Nat × Nat) × Nat)), T.all (fun q => !(q.1.1 == a)) = true → T.lookup (a, k) = none := by
      intro T
      induction T with
      | nil => intro _; rfl
      | cons q T ih =>
        intro hT
        rw [List.all_cons, Bool.and_eq_true] at hT
        rw [List.lookup_cons]
        have hne : ((a, k) == q.1) = false := by
          cases hb : ((a, k) == q.1) with
          | false => rfl
          | true =>
            have hb := eq_of_beq hb
            rw [← hb] at hT
            simp at hT
        rw [hne]
        exact ih hT.2
    rw [key xPL h] at hl
    cases hl
theorem xL_set {P : xPt} {a k : Nat} {r : Option Nat} (h : xPL.all (fun q => !(q.1.1 == a)) = true) (hL : xL P) : xL (xu P a k r) := by
  intro b j hb
  by_cases hc : b = a ∧ j = k
  · obtain ⟨rfl, rfl⟩ := hc
    rw [fz_no h] at hb
    cases hb
  · rw [xu_other hc]
    exact hL b j hb
theorem fz22 : xPL.all (fun q => !(q.1.1 == 22)) = true := by decide +kernel
theorem xIs_en {x : Nat} (hx : xS0[x]? = some (5, 0)) : xIs 67 (some x) := fun v hv => by
  cases hv
  exact ⟨5, 0, hx, by decide, by decide +kernel⟩
def dlu (e u : Nat) : Nat := if e < u then u - 1 else u
/-- the tree without the entry at e -/
def dlt (D : List Ent) (e : Nat) : List Ent := (D.eraseIdx e).map (fun x => (x.1, x.2.1, x.2.2.1, x.2.2.2.map (dlu e)))
/-- the objects at the places then -/
def osh (o : Nat → Nat) (e n i : Nat) : Nat := if i < e then o i else if i + 1 < n then o (i + 1) else if i + 1 = n then o e else o i
theorem osh_up {o : Nat → Nat} {e n u : Nat} (he : e < n) (hu : u < n) (hne : u ≠ e) : osh o e n (dlu e u) = o u := by
  unfold osh dlu
  by_cases h : e < u
  · rw [if_pos h, if_neg (by omega), if_pos (by omega), show u - 1 + 1 = u by omega]
  · rw [if_neg h, if_pos (by omega)]
section XTR2
variable {l : Launch} {V : xV} {I : xIt} {J : xJt} {P : xPt} {o : Nat → Nat} {D : List Ent}
theorem take_all {R : List Vl} {a t : Nat} (ha : xS0[a]? = some (6, 0)) (h : wfr t R) : (pkr R).take (xLn (a + 1)) = pkr R := by
  have h1 := vr_cap ha
  have h2 := h.2.1
  have h3 : mo t ≤ 3 := by unfold mo; split <;> omega
  exact List.take_of_length_le (by rw [pkr_len]; omega)
theorem xEn.congr {x : Nat} {A B : Nat → List (Int64 × Int64)} {nt : Nat} {nv : Int64} {ab : Option Nat} (h : xEn I J P x A nt nv ab) (hAB : ∀ t, t < 5 → A t = B t) : xEn I J P x B nt nv ab := ⟨fun t ht => by rw [← hAB t ht]; exact h.1 t ht, h.2⟩
/-- nothing changed but entry x and the tree's count -/
def xS2 (x : Nat) (I I' : xIt) (J J' : xJt) : Prop := (∀ b k, ¬ (b = 21 ∧ k = 1) → b < x ∨ x + 17 ≤ b → I' b k = I b k) ∧ ∀ b k, b < x ∨ x + 17 ≤ b → J' b k = J b k
set_option maxRecDepth 20000 in
theorem c_TR_addCopy {x : Ent} (hL : xL P) (hT : xTr I J P o D) (hn : D.length < 12) (hw : ∀ t, t < 5 → wfr t (x.1 t)) (hE : xEn I J P 228 (fun t => pkr (x.1 t)) x.2.1 (pkd x.2.2.1) (x.2.2.2.map o)) : xMet l V y_TR_addCopy 4 0 0 [xq (some 21), xq (some 228)] xS0 I J P (xPv (fun I' J' P' => P' = xu P (o D.length) 1 (x.2.2.2.map o) ∧ xS2 (o D.length) I I' J J' ∧ xTr I' J' P' o (D ++ [x]))) := by
  have h12 := hT.2.1
  have ho := hT.2.2.1 D.length hn
  have h23 := (ent0 _ (x_lt0 ho.2.1) ho.2.1).1
  refine e_TR_addCopy (b_TR_addCopy_0 hL ⟨_, c_TR_isFull hL hT, ?_⟩)
  rintro w I1 _ _ ⟨rfl, rfl, rfl, rfl⟩
  rw [if_neg (by omega)]
  refine ⟨fun z => absurd rfl z, fun _ => ?_⟩
  rw [hT.1, pk_cl D.length]
  have s228 : xS0[228]? = some (5, 0) := by decide +kernel
  refine ⟨pk_in D.length 12 hn, o D.length, ho.1, ho.2.1, _, c_EN_copy hL ho.2.1 s228 ((ent_far ho.2.1 s228 (by omega)).symm) hE, ?_⟩
  rintro I3 J3 P3 ⟨rfl, hs, hE3⟩
  have hI21 : I3 21 1 = nI D.length := (hs.1 21 1 (by omega)).trans hT.1
  refine ⟨rfl, ⟨fun b k h1 h2 => (xu_other h1).trans (hs.1 b k h2), hs.2⟩, ?_, by simp; omega, fun i hi => ⟨(xu_other (by omega)).trans (hT.2.2.1 i hi).1, (hT.2.2.1 i hi).2⟩, hT.2.2.2.1, fun i y hi => ?_⟩
  · rw [xu_at, hI21, nI_1]; simp
  · by_cases hil : i < D.length
    · rw [List.getElem?_append_left hil] at hi
      have hoi := hT.2.2.1 i (by omega)
      have hne : o i ≠ o D.length := fun z => by have := hT.2.2.2.1 i D.length (by omega) hn z; omega
      have hf := ent_far hoi.2.1 ho.2.1 hne
      have h23' := (ent0 _ (x_lt0 hoi.2.1) hoi.2.1).1
      exact (hT.2.2.2.2 i y hi).far (fun b k h1 h2 => (xu_other (by omega)).trans (hs.1 b k (by omega))) (fun b k h1 h2 => hs.2 b k (by omega)) (xu_other (by omega))
    · rw [List.getElem?_append_right (by omega)] at hi
      have h8 : i = D.length := by
        have := (List.getElem?_eq_some_iff.mp hi).1
        simp at this
        omega
      subst h8
      simp at hi
      subst hi
      refine (hE3.congr (B := fun t => pkr (x.1 t)) (fun t ht => take_all (en_row hL ho.2.1 ht).2 (hw t ht))).far (fun b k h1 h2 => xu_other (by omega)) (fun b k h1 h2 => rfl) rfl
set_option maxRecDepth 20000 in
set_option maxHeartbeats 1000000 in
theorem c_TR_remove {e : Nat} (hL : xL P) (hT : xTr I J P o D) (hW : wf D) (he : e < D.length) (hno : ∀ (i : Nat) (x : Ent), D[i]? = some x → x.2.2.2 ≠ some e) : xMet l V y_TR_remove 3 0 0 [xq (some 21), xq (some (o e))] xS0 I J P (xPv (fun I' J' P' => (∀ b k, b ≠ 22 → ¬ (b = o e ∧ k = 1) → P' b k = P b k) ∧ xS2 (o e) I I' J J' ∧ xTr I' J' P' (osh o e D.length) (dlt D e))) := by
  have h12 := hT.2.1
  have hoe := hT.2.2.1 e (by omega)
  have h23 := (ent0 _ (x_lt0 hoe.2.1) hoe.2.1).1
  obtain ⟨xe, hxe⟩ : ∃ x, D[e]? = some x := ⟨_, List.getElem?_eq_getElem he⟩
  have hlen : (dlt D e).length = D.length - 1 := by simp [dlt, List.length_eraseIdx, he]
  refine e_TR_remove (b_TR_remove_0 hL ⟨_, c_TR_placeOf hL hT he, ?_⟩)
  rintro w I1 _ _ ⟨rfl, rfl, rfl, rfl⟩
  refine ⟨fun _ => ?_, fun z => absurd (nI_pos (n := e) (by omega)) (by rw [z]; exact fun w => w (by decide))⟩
  have loop : ∀ (k j : Nat) (P1 : xPt), e ≤ j → j + k = D.length - 1 → xL P1 → (∀ b i, b ≠ 22 → P1 b i = P b i) → (∀ i, i < 12 → P1 22 i = some (if e ≤ i ∧ i < j then o (i + 1) else o i)) → G_TR_remove l V (fun I' J' P' => (∀ b k, b ≠ 22 → ¬ (b = o e ∧ k = 1) → P' b k = P b k) ∧ xS2 (o e) I I' J J' ∧ xTr I' J' P' (osh o e D.length) (dlt D e)) 14 [(0, xq (some 21)), (1, xq (some (o e))), (2, xi (nI e)), (3, xi (nI j))] [] I J P1 := by
    intro k
    induction k with
    | zero =>
      intro j P1 hej hj hL1 hP hQ
      have hj' : j = D.length - 1 := by omega
      subst hj'
      refine b_TR_remove_14 hL1 ?_
      rw [hT.1, show nI D.length - 1 = nI (D.length - 1) from pk_sub (b := 1) (by omega)]
      refine pk_le (D.length - 1) (D.length - 1) (fun _ => ⟨xIs_en hoe.2.1, pk_in (D.length - 1) 12 (by omega), ?_⟩) (fun z => by omega)
      rw [pk_cl (D.length - 1)]
      refine ⟨xL_set fz22 hL1, o e, rfl, hoe.2.1, ?_⟩
      have hEe : xEn (xu I 21 1 (nI (D.length - 1))) J (xu P1 22 (D.length - 1) (some (o e))) (o e) (fun t => pkr (xe.1 t)) xe.2.1 (pkd xe.2.2.1) (xe.2.2.2.map o) := (hT.2.2.2.2 e xe hxe).far (fun b k h1 h2 => xu_other (by omega)) (fun _ _ _ _ => rfl) ((xu_other (by omega)).trans (hP _ _ (by omega)))
      refine ⟨_, c_EN_clear (xL_set fz22 hL1) hoe.2.1 hEe, ?_⟩
      rintro I3 J3 P3 ⟨rfl, hs, -⟩
      refine ⟨fun b k h1 h2 => (xu_other h2).trans ((xu_other (by omega)).trans (hP b k h1)), ⟨fun b k h1 h2 => (hs.1 b k h2).trans (xu_other h1), hs.2⟩, ?_, by omega, fun i hi => ?_, fun i j' hi hj' h => ?_, fun i y hi => ?_⟩
      · rw [hs.1 21 1 (by omega), xu_at, hlen]
      · refine ⟨?_, ?_⟩
        · rw [xu_other (by omega)]
          by_cases hin : i = D.length - 1
          · subst hin
            rw [xu_at]
            unfold osh
            rw [if_neg (by omega), if_neg (by omega), if_pos (by omega)]
          · rw [xu_other (by omega), hQ i hi]
            unfold osh
            by_cases h1 : i < e
            · rw [if_pos h1, if_neg (by omega)]
            · rw [if_neg h1]
              by_cases h2 : i + 1 < D.length
              · rw [if_pos h2, if_pos (by omega)]
              · rw [if_neg h2, if_neg (by omega), if_neg (by omega)]
        · unfold osh
          split
          · exact (hT.2.2.1 i hi).2
          · split
            · exact (hT.2.2.1 (i + 1) (by omega)).2
            · split
              · exact hoe.2
              · exact (hT.2.2.1 i hi).2
      · have hinj := hT.2.2.2.1
        unfold osh at h
        repeat' split at h
        all_goals
          have h7 := hinj _ _ (by omega) (by omega) h
          omega
      · unfold dlt at hi
        rw [List.getElem?_map] at hi
        obtain ⟨x, hx, rfl⟩ := Option.map_eq_some_iff.mp hi
        rw [List.getElem?_eraseIdx] at hx
        obtain ⟨i0, hi0, hie, ho0, hi12⟩ : ∃ i0, D[i0]? = some x ∧ i0 ≠ e ∧ osh o e D.length i = o i0 ∧ i0 < D.length := by
          by_cases h1 : i < e
          · rw [if_pos h1] at hx
            exact ⟨i, hx, by omega, by unfold osh; rw [if_pos h1], (List.getElem?_eq_some_iff.mp hx).1⟩
          · rw [if_neg h1] at hx
            have h2 := (List.getElem?_eq_some_iff.mp hx).1
            exact ⟨i + 1, hx, by omega, by unfold osh; rw [if_neg h1, if_pos h2], h2⟩
        have hoi := hT.2.2.1 i0 (by omega)
        have hne : o i0 ≠ o e := fun z => hie (hT.2.2.2.1 i0 e (by omega) (by omega) z)
        have hf := ent_far hoi.2.1 hoe.2.1 hne
        have h23' := (ent0 _ (x_lt0 hoi.2.1) hoi.2.1).1
        rw [ho0]
        have hup : (x.2.2.2.map (dlu e)).map (osh o e D.length) = x.2.2.2.map o := by
          cases hu : x.2.2.2 with
          | none => rfl
          | some u =>
            have h1 := (hW i0 x hi0).2 u hu
            have h2 := hno i0 x hi0
            simp only [Option.map_some]
            rw [osh_up he (by omega) (fun z => h2 (by rw [hu, z]))]
        show xEn I3 J3 (xu (xu P1 22 (D.length - 1) (some (o e))) (o e) 1 none) (o i0) (fun t => pkr (x.1 t)) x.2.1 (pkd x.2.2.1) ((x.2.2.2.map (dlu e)).map (osh o e D.length))
        rw [hup]
        exact (hT.2.2.2.2 i0 x hi0).far (fun b k h1 h2 => (hs.1 b k (by omega)).trans (xu_other (by omega))) (fun b k h1 h2 => hs.2 b k (by omega)) ((xu_other (by omega)).trans ((xu_other (by omega)).trans (hP _ _ (by omega))))
    | succ k ih =>
      intro j P1 hej hj hL1 hP hQ
      refine b_TR_remove_14 hL1 ?_
      rw [hT.1, show nI D.length - 1 = nI (D.length - 1) from pk_sub (b := 1) (by omega), nI_1]
      refine pk_le (D.length - 1) j (fun z => by omega) (fun _ => ⟨pk_in (j + 1) 12 (by omega), ?_⟩)
      rw [pk_cl (j + 1), pk_cl j, hQ (j + 1) (by omega), if_neg (by omega)]
      refine ⟨xIs_en (hT.2.2.1 (j + 1) (by omega)).2.1, pk_in j 12 (by omega), xL_set fz22 hL1, ih (j + 1) _ (by omega) (by omega) (xL_set fz22 hL1) (fun b i hb => (xu_other (by omega)).trans (hP b i hb)) (fun i hi => ?_)⟩
      by_cases hij : i = j
      · subst hij
        rw [xu_at, if_pos (by omega)]
      · rw [xu_other (by omega), hQ i hi]
        by_cases h1 : e ≤ i ∧ i < j
        · rw [if_pos h1, if_pos (by omega)]
        · rw [if_neg h1, if_neg (by omega)]
  exact loop (D.length - 1 - e) e P (Nat.le_refl _) (by omega) hL (fun _ _ _ => rfl) (fun i hi => by rw [if_neg (by omega)]; exact (hT.2.2.1 i hi).1)
end XTR2

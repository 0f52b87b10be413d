/-! what the forms of a message tell of its texts -/
theorem vl_ok {m : Nat → Nat} : ∀ (k p e : Nat) (L : List (Nat × Nat)), vl m k p e = some L → L.length ≤ k ∧ ∀ q ∈ L, q.1 ≤ q.2 ∧ q.2 ≤ e := by
  intro k
  induction k with
  | zero =>
    intro p e L h
    rw [vl] at h
    by_cases h1 : e ≤ p
    · rw [if_pos h1] at h; cases h; exact ⟨by simp, fun q hq => by cases hq⟩
    · rw [if_neg h1] at h; cases h
  | succ k ih =>
    intro p e L h
    rw [vl] at h
    by_cases h1 : e ≤ p
    · rw [if_pos h1] at h; cases h; exact ⟨by simp, fun q hq => by cases hq⟩
    · rw [if_neg h1] at h
      cases ht : tk m 4 30 p e with
      | none => rw [ht] at h; cases h
      | some q =>
        rw [ht] at h
        simp only at h
        obtain ⟨t, ht2, rfl⟩ := Option.map_eq_some_iff.mp h
        have h2 := ih _ _ _ ht2
        have h3 := tk_bd ht
        refine ⟨by simp; exact h2.1, fun q' hq' => ?_⟩
        rcases List.mem_cons.mp hq' with rfl | hq'
        · omega
        · exact h2.2 q' hq'
theorem al_ok {m : Nat → Nat} : ∀ (k p e : Nat) (t : List ((Nat × Nat) × List (Nat × Nat))), p ≤ e → al m k p e = some t → (p + 6 * t.length + 2 * (t.flatMap (fun x => x.2)).length ≤ e ∧ t.length ≤ (t.flatMap (fun x => x.2)).length) ∧ ∀ x ∈ t, (x.1.1 ≤ x.1.2 ∧ x.1.2 ≤ e) ∧ x.2.length ≤ 8 ∧ ∀ q ∈ x.2, q.1 ≤ q.2 ∧ q.2 ≤ e := by
  intro k
  induction k with
  | zero =>
    intro p e t hpe h
    rw [al] at h
    by_cases h1 : e ≤ p
    · rw [if_pos h1] at h; cases h; exact ⟨⟨by simp; omega, by simp⟩, fun q hq => by cases hq⟩
    · rw [if_neg h1] at h; cases h
  | succ k ih =>
    intro p e t hpe h
    rw [al] at h
    by_cases h1 : e ≤ p
    · rw [if_pos h1] at h; cases h; exact ⟨⟨by simp; omega, by simp⟩, fun q hq => by cases hq⟩
    · rw [if_neg h1] at h
      obtain ⟨s, hs, h⟩ := Option.bind_eq_some_iff.mp h
      obtain ⟨B, hB, h⟩ := Option.bind_eq_some_iff.mp h
      obtain ⟨W, hW, h⟩ := Option.bind_eq_some_iff.mp h
      have b1 := tk_bd hs
      have b2 := tk_bd hB
      have b3 := tk_bd hW
      by_cases h2 : W.2 = s.2
      · rw [if_pos h2] at h
        by_cases h3 : W.1 = W.2
        · rw [if_pos h3] at h; cases h
        · rw [if_neg h3] at h
          obtain ⟨L, hL, h⟩ := Option.bind_eq_some_iff.mp h
          obtain ⟨r, hr, rfl⟩ := Option.map_eq_some_iff.mp h
          have h4 := ih _ _ _ (by omega) hr
          have h5 := vl_ok _ _ _ _ hL
          have h6 := vl_bd m _ _ _ _ (by omega) hL
          refine ⟨?_, fun x hx => ?_⟩
          · simp only [List.length_cons, List.flatMap_cons, List.length_append]
            have h7 : L.length ≠ 0 := fun z => by have := h6.2 (List.eq_nil_of_length_eq_zero z); omega
            omega
          · rcases List.mem_cons.mp hx with rfl | hx
            · exact ⟨by show B.1 ≤ B.2 ∧ B.2 ≤ e; omega, h5.1, fun q hq => by have := h5.2 q hq; omega⟩
            · exact h4.2 x hx
      · rw [if_neg h2] at h; cases h
theorem fla_len : ∀ t : List ((Nat × Nat) × List (Nat × Nat)), (fla t).length = t.length + (t.flatMap (fun x => x.2)).length := by
  intro t
  induction t with
  | nil => rfl
  | cons x t ih =>
    have h1 : fla (x :: t) = x.1 :: x.2 ++ fla t := by simp [fla]
    rw [h1, List.flatMap_cons, List.length_append, List.length_append, ih]
    simp only [List.length_cons]
    omega
theorem af_ok {m : Nat → Nat} {f e : Nat} {q : (Nat × Nat) × (Nat × Nat) × List ((Nat × Nat) × List (Nat × Nat))} (he : e ≤ 153) (h : af m f e = some q) : (q.1.1 ≤ q.1.2 ∧ q.1.2 ≤ e) ∧ q.2.2.length ≤ 18 ∧ (q.1 :: fla q.2.2).length ≤ 75 ∧ ∀ x ∈ q.2.2, (x.1.1 ≤ x.1.2 ∧ x.1.2 ≤ e) ∧ x.2.length ≤ 8 ∧ ∀ q ∈ x.2, q.1 ≤ q.2 ∧ q.2 ≤ e := by
  unfold af at h
  obtain ⟨A, hA, h⟩ := Option.bind_eq_some_iff.mp h
  obtain ⟨C, hC, h⟩ := Option.bind_eq_some_iff.mp h
  have b1 := tk_bd hA
  have b2 := tk_bd hC
  by_cases h2 : C.2 = e
  · rw [if_pos h2] at h
    obtain ⟨t, ht, h⟩ := Option.bind_eq_some_iff.mp h
    cases h
    have h3 := al_ok _ _ _ _ (by omega) ht
    have h4 := fla_len t
    refine ⟨by show A.1 ≤ A.2 ∧ A.2 ≤ e; omega, ?_, ?_, h3.2⟩
    · show t.length ≤ 18; omega
    · show (A :: fla t).length ≤ 75
      rw [List.length_cons]
      omega
  · rw [if_neg h2] at h; cases h
theorem mf_ok {m : Nat → Nat} {f e : Nat} {q : (Nat × Nat) × Nat × (Nat × Nat) × (Nat × Nat) × List (Nat × Nat)} (h : mf m f e = some q) : (q.1.1 ≤ q.1.2 ∧ q.1.2 ≤ e) ∧ q.2.1 ≤ 2 ∧ (q.2.2.1.1 ≤ q.2.2.1.2 ∧ q.2.2.1.2 ≤ e) ∧ q.2.2.2.2.length ≤ 8 ∧ (∀ x ∈ q.2.2.2.2, x.1 ≤ x.2 ∧ x.2 ≤ e) ∧ vl m 8 q.2.2.2.1.1 q.2.2.2.1.2 = some q.2.2.2.2 ∧ q.2.2.2.1.2 = e ∧ q.2.2.2.1.1 ≤ e := by
  unfold mf at h
  obtain ⟨A, hA, h⟩ := Option.bind_eq_some_iff.mp h
  obtain ⟨c, hc, h⟩ := Option.bind_eq_some_iff.mp h
  by_cases h1 : c.1 ≤ 2
  · rw [if_pos h1] at h
    obtain ⟨B, hB, h⟩ := Option.bind_eq_some_iff.mp h
    obtain ⟨C, hC, h⟩ := Option.bind_eq_some_iff.mp h
    by_cases h2 : C.2 = e
    · rw [if_pos h2] at h
      obtain ⟨L, hL, h⟩ := Option.bind_eq_some_iff.mp h
      cases h
      have b1 := tk_bd hA
      have b2 := tk_bd hB
      have b3 := tk_bd hC
      have h5 := vl_ok _ _ _ _ hL
      exact ⟨by show A.1 ≤ A.2 ∧ A.2 ≤ e; omega, h1, by show B.1 ≤ B.2 ∧ B.2 ≤ e; omega, h5.1, fun x hx => (by have := h5.2 x hx; omega), hL, h2, by show C.1 ≤ e; omega⟩
    · rw [if_neg h2] at h; cases h
  · rw [if_neg h1] at h; cases h
theorem bf_ok {m : Nat → Nat} {f e : Nat} {q : Int32 × (Nat × Nat) × (Nat × Nat)} (h : bf m f e = some q) : (q.2.1.1 ≤ q.2.1.2 ∧ q.2.1.2 ≤ e) ∧ (q.2.2.1 ≤ q.2.2.2 ∧ q.2.2.2 ≤ e) ∧ q.2.2.2 - q.2.2.1 ≤ 30 := by
  unfold bf at h
  obtain ⟨n, hn, h⟩ := Option.bind_eq_some_iff.mp h
  obtain ⟨A, hA, h⟩ := Option.bind_eq_some_iff.mp h
  obtain ⟨C, hC, h⟩ := Option.bind_eq_some_iff.mp h
  cases h
  have b1 := tk_bd hA
  have b2 := tk_bd hC
  exact ⟨by show A.1 ≤ A.2 ∧ A.2 ≤ e; omega, by show C.1 ≤ C.2 ∧ C.2 ≤ e; omega, by show C.2 - C.1 ≤ 30; omega⟩
theorem cf_ok {m : Nat → Nat} {f e : Nat} {q : (Nat × Nat) × (Nat × Nat) × (Nat × Nat)} (h : cf m f e = some q) : (q.1.1 ≤ q.1.2 ∧ q.1.2 ≤ e) ∧ (q.2.1.1 ≤ q.2.1.2 ∧ q.2.1.2 ≤ e) ∧ (q.2.2.1 ≤ q.2.2.2 ∧ q.2.2.2 ≤ e) ∧ q.2.2.2 - q.2.2.1 ≤ 30 := by
  unfold cf at h
  obtain ⟨A, hA, h⟩ := Option.bind_eq_some_iff.mp h
  obtain ⟨s, hs, h⟩ := Option.bind_eq_some_iff.mp h
  by_cases h1 : s.2 = e
  · rw [if_pos h1] at h
    obtain ⟨B, hB, h⟩ := Option.bind_eq_some_iff.mp h
    obtain ⟨C, hC, h⟩ := Option.bind_eq_some_iff.mp h
    by_cases h2 : C.2 = e
    · rw [if_pos h2] at h
      cases h
      have b1 := tk_bd hA
      have b2 := tk_bd hB
      have b3 := tk_bd hC
      exact ⟨by show A.1 ≤ A.2 ∧ A.2 ≤ e; omega, by show B.1 ≤ B.2 ∧ B.2 ≤ e; omega, by show C.1 ≤ C.2 ∧ C.2 ≤ e; omega, by show C.2 - C.1 ≤ 30; omega⟩
    · rw [if_neg h2] at h; cases h
  · rw [if_neg h1] at h; cases h
theorem nf_ok {m : Nat → Nat} {f e : Nat} {q : (Nat × Nat) × (Nat × Nat) × Nat × Nat} (h : nf m f e = some q) : (q.1.1 ≤ q.1.2 ∧ q.1.2 ≤ e) ∧ (q.2.1.1 ≤ q.2.1.2 ∧ q.2.1.2 ≤ e) := by
  unfold nf at h
  obtain ⟨A, hA, h⟩ := Option.bind_eq_some_iff.mp h
  obtain ⟨B, hB, h⟩ := Option.bind_eq_some_iff.mp h
  obtain ⟨c, hc, h⟩ := Option.bind_eq_some_iff.mp h
  cases h
  have b1 := tk_bd hA
  have b2 := tk_bd hB
  exact ⟨by show A.1 ≤ A.2 ∧ A.2 ≤ e; omega, by show B.1 ≤ B.2 ∧ B.2 ≤ e; omega⟩
/-- what is known of one filter -/
def fnd (m : Nat → Nat) (e : Nat) (x : Fi) : Prop := x.1 < 256 ∧ (∀ q ∈ tx m x, q.1 ≤ q.2 ∧ q.2 ≤ e) ∧ (hld x.1 = false → if x.1 = 135 then (tx m x).length = 1 else (tx m x).length = 2)
theorem sq_fnd {m : Nat → Nat} {e0 : Nat} (hb : ∀ j, j < e0 → m j < 256) : ∀ (k p e top par n : Nat) (R : List Fi × Nat), e ≤ e0 → sq m k p e top par n = some R → ∀ x ∈ R.1, fnd m e0 x := by
  intro k
  induction k with
  | zero => intro p e top par n R _ h; cases h
  | succ k ih =>
    intro p e top par n R he h y hy
    rw [sq] at h
    by_cases hp : p = e
    · rw [if_pos hp] at h
      cases h
      cases hy
    rw [if_neg hp] at h
    obtain ⟨x, hx, h⟩ := Option.bind_eq_some_iff.mp h
    have hbd := tl_bd (t := x.1) (f := x.2.1) (u := x.2.2) hx
    have hx1 : x.1 < 256 := by rw [hbd.1]; exact hb p (by omega)
    by_cases hc : top = 6 ∨ n = 12
    · rw [if_pos hc] at h; cases h
    rw [if_neg hc] at h
    by_cases hh : 160 ≤ x.1 ∧ x.1 ≤ 162
    · rw [if_pos hh] at h
      obtain ⟨L, hL, h⟩ := Option.bind_eq_some_iff.mp h
      by_cases h2 : x.1 = 162 ∧ L.2 ≠ 1
      · rw [if_pos h2] at h; cases h
      rw [if_neg h2] at h
      obtain ⟨R', hR, rfl⟩ := Option.map_eq_some_iff.mp h
      rcases List.mem_cons.mp hy with rfl | hy
      · refine ⟨hx1, fun q hq => ?_, fun hf => ?_⟩
        · exfalso
          have : tx m (x.1, par, x.2.1, x.2.2) = [] := by
            unfold tx
            simp only
            rw [if_neg (by omega), if_neg (by omega)]
          rw [this] at hq
          cases hq
        · exfalso
          simp [hld] at hf
          omega
      · rcases List.mem_append.mp hy with hy | hy
        · exact ih _ _ _ _ _ L (by omega) hL y hy
        · exact ih _ _ _ _ _ R' he hR y hy
    · rw [if_neg hh] at h
      by_cases hl : lfb m x.1 x.2.1 x.2.2 = true
      · rw [if_pos hl] at h
        obtain ⟨R', hR, rfl⟩ := Option.map_eq_some_iff.mp h
        rcases List.mem_cons.mp hy with rfl | hy
        · refine ⟨hx1, ?_, fun _ => ?_⟩
          · intro q hq
            unfold tx at hq
            simp only at hq
            by_cases h1 : x.1 = 135
            · rw [if_pos h1] at hq
              simp at hq
              subst hq
              show x.2.1 ≤ x.2.2 ∧ x.2.2 ≤ e0
              omega
            · rw [if_neg h1] at hq
              by_cases h2 : x.1 = 163 ∨ x.1 = 165 ∨ x.1 = 166
              · rw [if_pos h2] at hq
                cases hB : tk m 4 30 x.2.1 x.2.2 with
                | none => rw [hB] at hq; cases hq
                | some B =>
                  rw [hB] at hq
                  simp only at hq
                  have b1 := tk_bd hB
                  cases hC : tk m 4 30 B.2 x.2.2 with
                  | none => rw [hC] at hq; cases hq
                  | some C =>
                    rw [hC] at hq
                    have b2 := tk_bd hC
                    simp at hq
                    rcases hq with rfl | rfl <;> omega
              · rw [if_neg h2] at hq; cases hq
          · unfold lfb at hl
            unfold tx
            simp only
            by_cases h1 : x.1 = 135
            · rw [if_pos h1, if_pos h1]; rfl
            · rw [if_neg h1] at hl
              rw [if_neg h1, if_neg h1]
              by_cases h2 : x.1 = 163 ∨ x.1 = 165 ∨ x.1 = 166
              · rw [if_pos h2] at hl
                rw [if_pos h2]
                cases hB : tk m 4 30 x.2.1 x.2.2 with
                | none => rw [hB] at hl; cases hl
                | some B =>
                  rw [hB] at hl
                  simp only at hl
                  cases hC : tk m 4 30 B.2 x.2.2 with
                  | none => simp only [hC] at hl; cases hl
                  | some C => simp only [hC]; rfl
              · rw [if_neg h2] at hl; cases hl
        · exact ih _ _ _ _ _ R' he hR y hy
      · rw [if_neg hl] at h; cases h
theorem sf_ok {m : Nat → Nat} {f e : Nat} {q : (Nat × Nat) × Nat × Int32 × Nat × List Fi} (hb : ∀ j, j < e → m j < 256) (h : sf m f e = some q) : (q.1.1 ≤ q.1.2 ∧ q.1.2 ≤ e) ∧ q.2.1 ≤ 2 ∧ 0 ≤ q.2.2.1 ∧ (∃ R : List Fi × Nat, sq m 200 q.2.2.2.1 e 0 0 0 = some R ∧ R.2 = 1 ∧ R.1 = q.2.2.2.2) ∧ q.2.2.2.2.length ≤ 12 ∧ 1 ≤ q.2.2.2.2.length ∧ (q.1 :: q.2.2.2.2.flatMap (tx m)).length ≤ 75 ∧ (∀ i x, q.2.2.2.2[i]? = some x → fnd m e x ∧ x.2.1 ≤ i) ∧ q.2.2.2.1 < e := by
  unfold sf at h
  obtain ⟨A, hA, h⟩ := Option.bind_eq_some_iff.mp h
  obtain ⟨c, hc, h⟩ := Option.bind_eq_some_iff.mp h
  by_cases h1 : c.1 ≤ 2
  · rw [if_pos h1] at h
    obtain ⟨n, hn, h⟩ := Option.bind_eq_some_iff.mp h
    by_cases h2 : 0 ≤ n.1
    · rw [if_pos h2] at h
      obtain ⟨x, hx, h⟩ := Option.bind_eq_some_iff.mp h
      by_cases h3 : x.2.2 = e
      · rw [if_pos h3] at h
        obtain ⟨R, hR, h⟩ := Option.bind_eq_some_iff.mp h
        by_cases h4 : R.2 = 1
        · rw [if_pos h4] at h
          cases h
          have b1 := tk_bd hA
          have b2 := tl_bd (t := x.1) (f := x.2.1) (u := x.2.2) hx
          have hlen := sq_len m _ _ _ _ _ _ R (by omega) hR
          have hf := sq_fnd hb _ _ _ _ _ _ R (Nat.le_refl _) hR
          refine ⟨by show A.1 ≤ A.2 ∧ A.2 ≤ e; omega, h1, h2, ⟨R, hR, h4, rfl⟩, by show R.1.length ≤ 12; omega, by show 1 ≤ R.1.length; omega, ?_, fun i y hy => ⟨hf y (List.mem_of_getElem? hy), ?_⟩, b2.2.2.2.2.2⟩
          · have key : ∀ S : List Fi, (∀ x ∈ S, fnd m e x) → (S.flatMap (tx m)).length ≤ 2 * S.length := by
              intro S
              induction S with
              | nil => intro _; simp
              | cons y S ih =>
                intro hS
                have h5 := ih (fun z hz => hS z (by simp [hz]))
                have h6 : (tx m y).length ≤ 2 := by
                  unfold tx
                  split
                  · simp
                  · split
                    · split
                      · split <;> simp
                      · simp
                    · simp
                simp only [List.flatMap_cons, List.length_append, List.length_cons]
                omega
            have := key R.1 hf
            show (A :: R.1.flatMap (tx m)).length ≤ 75
            rw [List.length_cons]
            omega
          · have := sq_par _ _ _ _ _ _ R hR (Nat.le_refl _) i y hy
            omega
        · rw [if_neg h4] at h; cases h
      · rw [if_neg h3] at h; cases h
    · rw [if_neg h2] at h; cases h
  · rw [if_neg h1] at h; cases h
/-- a request's mathematics keeps what holds of the tree -/
theorem prf_ok {m : Nat → Nat} {e d op f : Nat} {D : List Ent} {b : Option Nat} {fd : Nat} (he : e ≤ 153) (hb : ∀ j, j < e → m j < 256) (hi : inv D) (hbo : bok D b) (hfd : fd ≤ 12) : inv (prf m e d op f D b fd).2.1 ∧ bok (prf m e d op f D b fd).2.1 (prf m e d op f D b fd).2.2.1 ∧ (prf m e d op f D b fd).1 ≤ 69 ∧ (prf m e d op f D b fd).2.2.2.1 ≤ 12 ∧ (prf m e d op f D b fd).2.2.2.2.length ≤ 146 * 12 := by
  have same : ∀ c, c ≤ 69 → inv ((c, D, b, fd, []) : Res).2.1 ∧ bok ((c, D, b, fd, []) : Res).2.1 ((c, D, b, fd, []) : Res).2.2.1 ∧ ((c, D, b, fd, []) : Res).1 ≤ 69 ∧ ((c, D, b, fd, []) : Res).2.2.2.1 ≤ 12 ∧ ((c, D, b, fd, []) : Res).2.2.2.2.length ≤ 146 * 12 := fun c hc => ⟨hi, hbo, hc, hfd, by simp⟩
  have ed : ∀ r : Nat ⊕ List Ent, ((∀ D', r = .inr D' → inv D' ∧ D.length ≤ D'.length) ∧ ∀ c, r = .inl c → c ≤ 69) → inv (edr D b fd r).2.1 ∧ bok (edr D b fd r).2.1 (edr D b fd r).2.2.1 ∧ (edr D b fd r).1 ≤ 69 ∧ (edr D b fd r).2.2.2.1 ≤ 12 ∧ (edr D b fd r).2.2.2.2.length ≤ 146 * 12 := by
    intro r hr
    cases r with
    | inl c => exact same c (hr.2 c rfl)
    | inr D' =>
      have h := hr.1 D' rfl
      exact ⟨h.1, fun k hk => Nat.lt_of_lt_of_le (hbo k hk) h.2, Nat.zero_le _, hfd, by simp [edr]⟩
  unfold prf
  by_cases h96 : op = 96
  · rw [if_pos h96]
    cases hq : bf m f e with
    | none => exact same 0 (by omega)
    | some q =>
      refine ⟨hi, ?_, ?_, hfd, by simp⟩
      · intro k hk
        have hk : (bndm m D b q).2 = some k := hk
        unfold bndm at hk
        by_cases h1 : q.1 = 3
        · rw [if_pos h1] at hk
          by_cases h2 : q.2.1.1 = q.2.1.2 ∧ q.2.2.1 = q.2.2.2
          · rw [if_pos h2] at hk; cases hk
          · rw [if_neg h2] at hk
            cases hw : whoM m q.2.1 D with
            | inl c => rw [hw] at hk; cases hk
            | inr w =>
              rw [hw] at hk
              simp only at hk
              cases hv : val m 4 q.2.2 with
              | none => rw [hv] at hk; cases hk
              | some v =>
                rw [hv] at hk
                simp only at hk
                by_cases h3 : hs (rowsM D w 4) v.2 = true
                · rw [if_pos h3] at hk; cases hk; exact whoM_lt hw
                · rw [if_neg h3] at hk; cases hk
        · rw [if_neg h1] at hk; exact hbo k hk
      · show (bndm m D b q).1 ≤ 69
        unfold bndm
        split
        · split
          · exact Nat.zero_le _
          · split
            · show 49 ≤ 69; omega
            · split
              · show 49 ≤ 69; omega
              · split
                · exact Nat.zero_le _
                · show 49 ≤ 69; omega
        · show 2 ≤ 69; omega
  rw [if_neg h96]
  by_cases h104 : op = 104
  · rw [if_pos h104]
    cases hq : af m f e with
    | none => exact same 0 (by omega)
    | some q =>
      have ho := af_ok he hq
      exact ed _ (addM_ok hi (fun j hj => hb j (by omega)) (fun x hx q' hq' j hj => hb j (by have := ((ho.2.2.2 x hx).2.2 q' hq').2; omega)))
  rw [if_neg h104]
  by_cases h74 : op = 74
  · rw [if_pos h74]
    have := delm_ok (m := m) (A := (f, e)) hi hbo
    exact ⟨this.1, this.2.1, this.2.2, hfd, by simp⟩
  rw [if_neg h74]
  by_cases h102 : op = 102
  · rw [if_pos h102]
    cases hq : mf m f e with
    | none => exact same 0 (by omega)
    | some q =>
      have ho := mf_ok hq
      exact ed _ (modM_ok hi (fun q' hq' j hj => hb j (by have := (ho.2.2.2.2.1 q' hq').2; omega)))
  rw [if_neg h102]
  by_cases h108 : op = 108
  · rw [if_pos h108]
    cases hq : nf m f e with
    | none => exact same 0 (by omega)
    | some q =>
      have ho := nf_ok hq
      exact ed _ (renM_ok hi (fun j hj => hb j (by omega)))
  rw [if_neg h108]
  by_cases h110 : op = 110
  · rw [if_pos h110]
    cases hq : cf m f e with
    | none => exact same 0 (by omega)
    | some q =>
      refine same _ ?_
      unfold cmpM
      split
      · rename_i hw; exact whoM_code hw
      · split
        · omega
        · split
          · omega
          · split
            · omega
            · split <;> omega
  rw [if_neg h110]
  cases hq : sf m f e with
  | none => exact same 0 (by omega)
  | some q =>
    have hs : (srcM m e d q.1 q.2.1 q.2.2.1 q.2.2.2.1 D).1 ≤ 69 ∧ (srcM m e d q.1 q.2.1 q.2.2.1 q.2.2.2.1 D).2.1 ≤ 12 ∧ (srcM m e d q.1 q.2.1 q.2.2.1 q.2.2.2.1 D).2.2.length ≤ 146 * 12 := by
      unfold srcM
      split
      · exact ⟨by show 34 ≤ 69; omega, Nat.zero_le _, by simp⟩
      · split
        · exact ⟨by show 32 ≤ 69; omega, Nat.zero_le _, by simp⟩
        · exact srl_ok hi _ _ _ _ (by omega) (by omega) (by simp)
    exact ⟨hi, hbo, hs.1, hs.2.1, hs.2.2⟩

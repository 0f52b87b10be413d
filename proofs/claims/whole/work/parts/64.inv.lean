/-! what holds of the tree at every time -/
/-- from u the root is reached in n steps -/
def dpt (D : List Ent) : Nat → Option Nat → Bool
  | _, none => true
  | 0, some _ => false
  | n + 1, some i => match D[i]? with
    | some x => dpt D n x.2.2.2
    | none => false
def uqs (D : List Ent) : Prop := ∀ (i j : Nat) (x y : Ent), D[i]? = some x → D[j]? = some y → x.2 = y.2 → i = j
def inv (D : List Ent) : Prop := wf D ∧ D.length ≤ 12 ∧ (∀ (i : Nat) (x : Ent), D[i]? = some x → fitb x.1 = true ∧ dpt D 3 (some i) = true) ∧ uqs D
theorem inv_nil : inv [] := ⟨fun i x h => (by simp at h), by simp, fun i x h => (by simp at h), fun i j x y h => by simp at h⟩
theorem dpt_none (D : List Ent) (n : Nat) : dpt D n none = true := by cases n <;> rfl
theorem dpt_mono {D : List Ent} : ∀ (n : Nat) (u : Option Nat), dpt D n u = true → dpt D (n + 1) u = true := by
  intro n
  induction n with
  | zero =>
    intro u h
    cases u with
    | none => rfl
    | some i => cases h
  | succ n ih =>
    intro u h
    cases u with
    | none => rfl
    | some i =>
      rw [dpt] at h ⊢
      cases hx : D[i]? with
      | none => rw [hx] at h; cases h
      | some x => rw [hx] at h; exact ih _ h
theorem dpt_le {D : List Ent} {u : Option Nat} {n : Nat} (h : dpt D n u = true) : ∀ k, dpt D (n + k) u = true := by
  intro k
  induction k with
  | zero => exact h
  | succ k ih => exact dpt_mono _ _ ih
theorem chd_some {D : List Ent} {u : Option Nat} {t i : Nat} {v : List Nat} (h : chd D u t v = some i) : ∃ x, D[i]? = some x ∧ x.2.2.2 = u ∧ x.2.1 = t ∧ x.2.2.1 = v := by
  obtain ⟨h1, h2, -⟩ := List.findIdx?_eq_some_iff_getElem.mp h
  refine ⟨D[i], List.getElem?_eq_getElem h1, ?_⟩
  simp [chb] at h2
  exact h2
theorem fdn_dpt {D : List Ent} : ∀ {L : List (Nat × List Nat × List Nat)} {u : Option Nat}, fdn D L = some u → dpt D L.length u = true := by
  intro L
  induction L with
  | nil => intro u h; cases h; rfl
  | cons p r ih =>
    intro u h
    rw [fdn] at h
    obtain ⟨w, hw, h⟩ := Option.bind_eq_some_iff.mp h
    obtain ⟨j, hj, rfl⟩ := Option.map_eq_some_iff.mp h
    obtain ⟨x, hx, hu, -⟩ := chd_some hj
    rw [List.length_cons, dpt, hx]
    rw [← hu] at hw
    exact ih hw
theorem dpt_app {D E : List Ent} : ∀ (n : Nat) (u : Option Nat), dpt D n u = true → dpt (D ++ E) n u = true := by
  intro n
  induction n with
  | zero => intro u h; cases u with
    | none => rfl
    | some i => cases h
  | succ n ih =>
    intro u h
    cases u with
    | none => rfl
    | some i =>
      rw [dpt] at h ⊢
      cases hx : D[i]? with
      | none => rw [hx] at h; cases h
      | some x =>
        rw [List.getElem?_append_left (List.getElem?_eq_some_iff.mp hx).1, hx]
        rw [hx] at h
        exact ih _ h
theorem dpt_set {D : List Ent} {e : Nat} {x x' : Ent} (hx : D[e]? = some x) (hu : x'.2.2.2 = x.2.2.2) : ∀ (n : Nat) (u : Option Nat), dpt (D.set e x') n u = dpt D n u := by
  intro n
  induction n with
  | zero => intro u; cases u <;> rfl
  | succ n ih =>
    intro u
    cases u with
    | none => rfl
    | some i =>
      rw [dpt, dpt]
      by_cases hi : i = e
      · subst hi
        rw [List.getElem?_set_self (List.getElem?_eq_some_iff.mp hx).1, hx]
        show dpt _ n x'.2.2.2 = _
        rw [hu, ih]
      · rw [List.getElem?_set_ne (Ne.symm hi)]
        cases D[i]? with
        | none => rfl
        | some y => exact ih _
theorem dlt_get {D : List Ent} {e i : Nat} {y : Ent} (h : (dlt D e)[i]? = some y) : ∃ i0 x, D[i0]? = some x ∧ i0 ≠ e ∧ i = dlu e i0 ∧ y = (x.1, x.2.1, x.2.2.1, x.2.2.2.map (dlu e)) := by
  unfold dlt at h
  rw [List.getElem?_map] at h
  obtain ⟨x, hx, rfl⟩ := Option.map_eq_some_iff.mp h
  rw [List.getElem?_eraseIdx] at hx
  by_cases h1 : i < e
  · rw [if_pos h1] at hx
    exact ⟨i, x, hx, by omega, by simp [dlu]; omega, rfl⟩
  · rw [if_neg h1] at hx
    exact ⟨i + 1, x, hx, by omega, by simp [dlu]; omega, rfl⟩
theorem dlt_at {D : List Ent} {e i : Nat} {x : Ent} (h : D[i]? = some x) (hne : i ≠ e) : (dlt D e)[dlu e i]? = some (x.1, x.2.1, x.2.2.1, x.2.2.2.map (dlu e)) := by
  unfold dlt dlu
  rw [List.getElem?_map, List.getElem?_eraseIdx]
  by_cases h1 : e < i
  · rw [if_pos h1, if_neg (by omega), show i - 1 + 1 = i by omega, h]
    rfl
  · rw [if_neg h1, if_pos (by omega), h]
    rfl
theorem dpt_dlt {D : List Ent} {e : Nat} (hno : ∀ (i : Nat) (x : Ent), D[i]? = some x → x.2.2.2 ≠ some e) : ∀ (n : Nat) (u : Option Nat), u ≠ some e → dpt D n u = true → dpt (dlt D e) n (u.map (dlu e)) = true := by
  intro n
  induction n with
  | zero => intro u _ h; cases u with
    | none => rfl
    | some i => cases h
  | succ n ih =>
    intro u hu h
    cases u with
    | none => rfl
    | some i =>
      rw [Option.map_some, dpt]
      rw [dpt] at h
      cases hx : D[i]? with
      | none => rw [hx] at h; cases h
      | some x =>
        rw [hx] at h
        rw [dlt_at hx (fun z => hu (by rw [z]))]
        exact ih _ (hno i x hx) h
theorem dlu_inj {e i j : Nat} (hi : i ≠ e) (hj : j ≠ e) (h : dlu e i = dlu e j) : i = j := by
  unfold dlu at h
  split at h <;> split at h <;> omega
theorem inv_dlt {D : List Ent} {e : Nat} (h : inv D) (he : e < D.length) (hno : ∀ (i : Nat) (x : Ent), D[i]? = some x → x.2.2.2 ≠ some e) : inv (dlt D e) := by
  have hlen : (dlt D e).length = D.length - 1 := by simp [dlt, List.length_eraseIdx, he]
  refine ⟨fun i y hy => ?_, by have := h.2.1; omega, fun i y hy => ?_, fun i j y z hy hz hyz => ?_⟩
  · obtain ⟨i0, x, hx, hne, hi, rfl⟩ := dlt_get hy
    have hw := h.1 i0 x hx
    refine ⟨hw.1, fun u hu => ?_⟩
    obtain ⟨w, hw', rfl⟩ := Option.map_eq_some_iff.mp hu
    have h1 := hw.2 w hw'
    have h2 := hno i0 x hx
    have h3 : w ≠ e := fun z => h2 (by rw [hw', z])
    rw [hi]
    unfold dlu
    split <;> split <;> omega
  · obtain ⟨i0, x, hx, hne, hi, rfl⟩ := dlt_get hy
    have hw := h.2.2.1 i0 x hx
    refine ⟨hw.1, ?_⟩
    rw [hi]
    exact dpt_dlt hno 3 (some i0) (fun z => hne (Option.some.inj z)) hw.2
  · obtain ⟨i0, x, hx, hne, hi, rfl⟩ := dlt_get hy
    obtain ⟨j0, x2, hx2, hne2, hj, rfl⟩ := dlt_get hz
    rw [hi, hj]
    congr 1
    refine h.2.2.2 i0 j0 x x2 hx hx2 ?_
    have h1 := congrArg (fun q : Nat × List Nat × Option Nat => q.1) hyz
    have h2 := congrArg (fun q : Nat × List Nat × Option Nat => q.2.1) hyz
    have h3 := congrArg (fun q : Nat × List Nat × Option Nat => q.2.2) hyz
    simp only at h1 h2 h3
    have h4 : x.2.2.2 = x2.2.2.2 := by
      cases hu : x.2.2.2 with
      | none => rw [hu] at h3; cases hu2 : x2.2.2.2 with
        | none => rfl
        | some b => rw [hu2] at h3; cases h3
      | some a => rw [hu] at h3; cases hu2 : x2.2.2.2 with
        | none => rw [hu2] at h3; cases h3
        | some b =>
          rw [hu2] at h3
          have h5 := Option.some.inj h3
          rw [dlu_inj (fun z => hno i0 x hx (by rw [hu, z])) (fun z => hno j0 x2 hx2 (by rw [hu2, z])) h5]
    exact Prod.ext h1 (Prod.ext h2 h4)
theorem inv_set {D : List Ent} {e : Nat} {x x' : Ent} (h : inv D) (hx : D[e]? = some x) (hu : x'.2.2.2 = x.2.2.2) (hw : wfe x') (hf : fitb x'.1 = true) (hq : ∀ j y, D[j]? = some y → y.2 = x'.2 → j = e) : inv (D.set e x') := by
  have hel := (List.getElem?_eq_some_iff.mp hx).1
  have get : ∀ i y, (D.set e x')[i]? = some y → (i = e ∧ y = x') ∨ (i ≠ e ∧ D[i]? = some y) := by
    intro i y hy
    by_cases hi : i = e
    · subst hi
      rw [List.getElem?_set_self hel] at hy
      exact Or.inl ⟨rfl, (Option.some.inj hy).symm⟩
    · rw [List.getElem?_set_ne (Ne.symm hi)] at hy
      exact Or.inr ⟨hi, hy⟩
  refine ⟨fun i y hy => ?_, by rw [List.length_set]; exact h.2.1, fun i y hy => ?_, fun i j y z hy hz hyz => ?_⟩
  · rcases get i y hy with ⟨rfl, rfl⟩ | ⟨hi, hy⟩
    · exact ⟨hw, fun u h2 => (h.1 i x hx).2 u (by rw [← hu]; exact h2)⟩
    · exact h.1 i y hy
  · rw [dpt_set hx hu]
    rcases get i y hy with ⟨rfl, rfl⟩ | ⟨hi, hy⟩
    · exact ⟨hf, (h.2.2.1 i x hx).2⟩
    · exact h.2.2.1 i y hy
  · rcases get i y hy with ⟨rfl, rfl⟩ | ⟨hi, hy2⟩
    · rcases get j z hz with ⟨rfl, rfl⟩ | ⟨hj, hz⟩
      · rfl
      · exact (hq j z hz hyz.symm).symm
    · rcases get j z hz with ⟨rfl, rfl⟩ | ⟨hj, hz⟩
      · exact hq i y hy2 hyz
      · exact h.2.2.2 i j y z hy2 hz hyz
theorem chd_none {D : List Ent} {u : Option Nat} {t : Nat} {v : List Nat} (h : chd D u t v = none) {j : Nat} {y : Ent} (hy : D[j]? = some y) : y.2 ≠ (t, v, u) := by
  intro z
  have h1 := List.findIdx?_eq_none_iff.mp h y (List.mem_of_getElem? hy)
  simp [chb, z] at h1
theorem inv_app {D : List Ent} {x : Ent} (h : inv D) (hn : D.length < 12) (hw : wfe x) (hf : fitb x.1 = true) (hu : ∀ u, x.2.2.2 = some u → u < D.length) (hd : dpt D 2 x.2.2.2 = true) (hq : ∀ (j : Nat) (y : Ent), D[j]? = some y → y.2 ≠ x.2) : inv (D ++ [x]) := by
  have get : ∀ i y, (D ++ [x])[i]? = some y → (i < D.length ∧ D[i]? = some y) ∨ (i = D.length ∧ y = x) := by
    intro i y hy
    by_cases hi : i < D.length
    · rw [List.getElem?_append_left hi] at hy
      exact Or.inl ⟨hi, hy⟩
    · rw [List.getElem?_append_right (by omega)] at hy
      have h8 : i = D.length := by
        have := (List.getElem?_eq_some_iff.mp hy).1
        simp at this
        omega
      subst h8
      simp at hy
      exact Or.inr ⟨rfl, hy.symm⟩
  refine ⟨fun i y hy => ?_, by simp; omega, fun i y hy => ?_, fun i j y z hy hz hyz => ?_⟩
  · rcases get i y hy with ⟨hi, hy⟩ | ⟨rfl, rfl⟩
    · exact h.1 i y hy
    · exact ⟨hw, hu⟩
  · rcases get i y hy with ⟨hi, hy⟩ | ⟨rfl, rfl⟩
    · exact ⟨(h.2.2.1 i y hy).1, dpt_app 3 _ (h.2.2.1 i y hy).2⟩
    · refine ⟨hf, ?_⟩
      rw [dpt, List.getElem?_append_right (Nat.le_refl _), Nat.sub_self]
      exact dpt_app 2 _ hd
  · rcases get i y hy with ⟨hi, hy2⟩ | ⟨rfl, rfl⟩
    · rcases get j z hz with ⟨hj, hz2⟩ | ⟨rfl, rfl⟩
      · exact h.2.2.2 i j y z hy2 hz2 hyz
      · exact absurd hyz (hq i y hy2)
    · rcases get j z hz with ⟨hj, hz⟩ | ⟨rfl, rfl⟩
      · exact absurd hyz.symm (hq j z hz)
      · rfl
theorem vk_len1 {v : Vl} (h : vk 0 v) : v.1.length = 1 := by
  have h2 := h.2.2
  unfold po at h2
  by_cases hn : v.1 = []
  · rw [if_pos hn] at h2; cases h2
  rw [if_neg hn] at h2
  simp only [ltr] at h2
  split at h2
  · rename_i heq
    rw [heq]; rfl
  · cases h2
theorem vk_len5 {v : Vl} (h : vk 3 v) : v.1.length ≤ 5 := by
  have h2 := h.2.2
  unfold po at h2
  by_cases hn : v.1 = []
  · rw [if_pos hn] at h2; cases h2
  rw [if_neg hn] at h2
  simp only at h2
  by_cases hi : isn v.1 = true
  · unfold isn at hi
    simp only [Bool.and_eq_true, decide_eq_true_eq] at hi
    have : fst45 v.1 ≤ 1 := by unfold fst45; split <;> omega
    omega
  · rw [if_neg hi] at h2; cases h2
/-- an entry that fits has at most two classes -/
theorem fit_2 {A : Nat → List Vl} (hw : wfr 0 (A 0)) (hf : fitb A = true) : (A 0).length ≤ 2 := by
  have hnd := hw.2.2
  unfold fitb fit6 at hf
  simp only [Bool.and_eq_true] at hf
  have hx := hf.1
  have ho := hf.2.1
  have h3 := hw.2.1
  have all : ∀ v ∈ A 0, v.2 = [103] ∨ v.2 = [104] ∨ v.2 = [120] := by
    intro v hv
    simp [hso] at ho
    have := ho v.1 v.2 hv
    by_cases h1 : v.2 = [103]
    · exact Or.inl h1
    by_cases h2 : v.2 = [104]
    · exact Or.inr (Or.inl h2)
    exact Or.inr (Or.inr (this h1 h2))
  generalize A 0 = R at *
  match R, h3 with
  | [], _ => simp
  | [a], _ => simp
  | [a, b], _ => simp
  | [a, b, c], _ =>
    exfalso
    have h1 := all a (by simp)
    have h2 := all b (by simp)
    have h4 := all c (by simp)
    simp at hnd
    rcases h1 with h1 | h1 | h1 <;> rcases h2 with h2 | h2 | h2 <;> rcases h4 with h4 | h4 | h4 <;> simp [h1, h2, h4, hs] at hnd hx
  | a :: b :: c :: d :: r, h3 => simp [mo] at h3
theorem vlb_len' {R : List Vl} {k n : Nat} (h3 : R.length ≤ k) (hv : ∀ v ∈ R, v.1.length ≤ n) (hn : n ≤ 6) : (vlb R).length ≤ k * (n + 2) := by
  have key : ∀ S : List Vl, (∀ v ∈ S, v.1.length ≤ n) → (vlb S).length ≤ S.length * (n + 2) := by
    intro S
    induction S with
    | nil => intro _; simp [vlb]
    | cons v S ih =>
      intro h
      have h1 := ih (fun w hw => h w (by simp [hw]))
      have h2 := h v (by simp)
      have h3 : (enc 4 v.1).length ≤ n + 2 := by rw [enc_len, if_pos (by omega)]; omega
      simp only [vlb, List.flatMap_cons, List.length_append, List.length_cons] at h1 ⊢
      rw [Nat.add_mul]
      omega
  exact Nat.le_trans (key R hv) (Nat.mul_le_mul_right _ h3)
theorem rwt_len {A : Nat → List Vl} {t k n : Nat} (h3 : (A t).length ≤ k) (hv : ∀ v ∈ A t, v.1.length ≤ n) (hn : n ≤ 6) (hk : k ≤ 3) : (rwt A t).length ≤ k * (n + 2) + 7 := by
  have h1 := vlb_len' h3 hv hn
  have h2 : k * (n + 2) ≤ 3 * 8 := Nat.mul_le_mul hk (by omega)
  unfold rwt
  split
  · unfold atb
    rw [enc_len, List.length_append, enc_len, if_pos (by omega)]
    simp only [List.length_cons, List.length_nil]
    rw [if_pos (by omega)]
    omega
  · simp
theorem rwb_88 {x : Ent} (hw : wfe x) (hf : fitb x.1 = true) : (rwb x.1 5).length ≤ 88 := by
  have h0 := rwt_len (A := x.1) (t := 0) (k := 2) (n := 1) (fit_2 (hw.1 0 (by omega)) hf) (fun v hv => Nat.le_of_eq (vk_len1 ((hw.1 0 (by omega)).1 v hv))) (by omega) (by omega)
  have h1 := rwt_len (A := x.1) (t := 1) (k := 1) (n := 6) (hw.1 1 (by omega)).2.1 (fun v hv => ((hw.1 1 (by omega)).1 v hv).1) (by omega) (by omega)
  have h2 := rwt_len (A := x.1) (t := 2) (k := 3) (n := 6) (hw.1 2 (by omega)).2.1 (fun v hv => ((hw.1 2 (by omega)).1 v hv).1) (by omega) (by omega)
  have h3 := rwt_len (A := x.1) (t := 3) (k := 1) (n := 5) (hw.1 3 (by omega)).2.1 (fun v hv => vk_len5 ((hw.1 3 (by omega)).1 v hv)) (by omega) (by omega)
  have h4 := rwt_len (A := x.1) (t := 4) (k := 1) (n := 6) (hw.1 4 (by omega)).2.1 (fun v hv => ((hw.1 4 (by omega)).1 v hv).1) (by omega) (by omega)
  rw [rwb_succ, rwb_succ, rwb_succ, rwb_succ, rwb_succ]
  simp only [List.length_append]
  have : (rwb x.1 0).length = 0 := rfl
  omega
theorem enb_146 {D : List Ent} {d e : Nat} {x : Ent} (hW : wf D) (hw : wfe x) (hf : fitb x.1 = true) : (enb D d e x).length ≤ 146 := by
  have h1 := rwb_88 hw hf
  have hpo := pts_ok hW 3 (some e)
  have h2 := nmj_len hpo.1 hpo.2
  have h3 := idb_len d
  have e1 := enc_len 4 (nmj (pts D 3 (some e)))
  rw [if_pos (by omega)] at e1
  have e2 := enc_len 48 (rwb x.1 5)
  rw [if_pos (by omega)] at e2
  unfold enb
  rw [enc_len, List.length_append, enc_len, List.length_append]
  split <;> split <;> omega
theorem rsb_15 (d op c : Nat) : (rsb d op c).length ≤ 15 := by
  have h3 := idb_len d
  have h4 : (enc (ans op) [10, 1, c, 4, 0, 4, 0]).length = 9 := by rw [enc_len]; rfl
  unfold rsb
  rw [enc_len, List.length_append, h4, if_pos (by omega)]
  omega
theorem sc_by8 {m : Nat → Nat} {e : Nat} (hb : ∀ j, j < e → m j < 256) : ∀ (n k : Nat) (acc : List Nat) (x : List Nat × Nat), by8 acc → sc m e n k acc = some x → by8 x.1 := by
  intro n
  induction n with
  | zero => intro k acc x _ h; cases h
  | succ n ih =>
    intro k acc x ha h
    rw [sc] at h
    by_cases h1 : e ≤ k
    · rw [if_pos h1] at h; cases h; exact ha
    rw [if_neg h1] at h
    by_cases h2 : m k = 44
    · rw [if_pos h2] at h; cases h; exact ha
    rw [if_neg h2] at h
    by_cases h3 : m k = 92
    · rw [if_pos h3] at h
      by_cases h4 : k + 1 = e
      · rw [if_pos h4] at h; cases h
      rw [if_neg h4] at h
      by_cases h5 : mkd (m (k + 1)) = true
      · rw [if_pos h5] at h
        exact ih _ _ _ (by8_app ha (fun b hb' => by simp at hb'; rw [hb']; exact hb _ (by omega))) h
      · rw [if_neg h5] at h; cases h
    rw [if_neg h3] at h
    by_cases h4 : m k = 61
    · rw [if_pos h4] at h; cases h
    rw [if_neg h4] at h
    exact ih _ _ _ (by8_app ha (fun b hb' => by simp at hb'; rw [hb']; exact hb _ (by omega))) h
theorem np_ok {m : Nat → Nat} {p e : Nat} {x : Nat × List Nat × List Nat × Nat} (hb : ∀ j, j < e → m j < 256) (h : np m p e = some x) : (1 ≤ x.1 ∧ x.1 ≤ 3) ∧ (x.2.1.length ≤ 6 ∧ by8 x.2.1 ∧ po x.1 x.2.1 = some x.2.2.1) := by
  unfold np at h
  by_cases h0 : e - p < 2 ∨ ¬ m (p + 1) = 61
  · rw [if_pos h0] at h; cases h
  rw [if_neg h0] at h
  obtain ⟨t, ht, h⟩ := Option.bind_eq_some_iff.mp h
  by_cases h1 : 1 ≤ t ∧ t ≤ 3
  · rw [if_pos h1] at h
    obtain ⟨y, hy, h⟩ := Option.bind_eq_some_iff.mp h
    by_cases h2 : y.1.length ≤ 6
    · rw [if_pos h2] at h
      obtain ⟨q, hq, rfl⟩ := Option.map_eq_some_iff.mp h
      exact ⟨h1, h2, sc_by8 hb _ _ _ _ (fun b hb' => by cases hb') hy, hq⟩
    · rw [if_neg h2] at h; cases h
  · rw [if_neg h1] at h; cases h
theorem nq_ok {m : Nat → Nat} {e : Nat} (hb : ∀ j, j < e → m j < 256) : ∀ (n p : Nat) (L : List (Nat × List Nat × List Nat)), nq m e n p = some L → L.length ≤ n ∧ ∀ x ∈ L, (1 ≤ x.1 ∧ x.1 ≤ 3) ∧ (x.2.1.length ≤ 6 ∧ by8 x.2.1 ∧ po x.1 x.2.1 = some x.2.2) := by
  intro n
  induction n with
  | zero => intro p L h; cases h
  | succ n ih =>
    intro p L h
    rw [nq] at h
    obtain ⟨x, hx, h⟩ := Option.bind_eq_some_iff.mp h
    have hok := np_ok hb hx
    by_cases h1 : x.2.2.2 = e
    · rw [if_pos h1] at h
      cases h
      refine ⟨by simp, fun y hy => ?_⟩
      simp at hy
      subst hy
      exact hok
    · rw [if_neg h1] at h
      obtain ⟨r, hr, rfl⟩ := Option.map_eq_some_iff.mp h
      have := ih _ _ hr
      refine ⟨by simp; exact this.1, fun y hy => ?_⟩
      rcases List.mem_cons.mp hy with rfl | hy
      · exact hok
      · exact this.2 y hy
theorem nr_ok {m : Nat → Nat} {s e : Nat} {L : List (Nat × List Nat × List Nat)} (hb : ∀ j, j < e → m j < 256) (h : nr m s e = some L) : wfp L := by
  unfold nr at h
  by_cases h1 : s = e
  · rw [if_pos h1] at h; cases h; exact ⟨by simp, fun p hp => by cases hp⟩
  · rw [if_neg h1] at h; exact nq_ok hb 3 s L h

/-! what a request does to the tree -/
def whoM (m : Nat → Nat) (A : Nat × Nat) (D : List Ent) : Nat ⊕ Nat := match nr m A.1 A.2 with
  | none => .inl 34
  | some N => match fdn D N with
    | some (some k) => .inr k
    | _ => .inl 32
def rowsM (D : List Ent) (k : Nat) : Nat → List Vl := match D[k]? with
  | some x => x.1
  | none => fun _ => []
def bndm (m : Nat → Nat) (D : List Ent) (b : Option Nat) (q : Int32 × (Nat × Nat) × (Nat × Nat)) : Nat × Option Nat :=
  if q.1 = 3 then (if q.2.1.1 = q.2.1.2 ∧ q.2.2.1 = q.2.2.2 then (0, none) else match whoM m q.2.1 D with
    | .inl _ => (49, none)
    | .inr w => match val m 4 q.2.2 with
      | none => (49, none)
      | some v => if hs (rowsM D w 4) v.2 = true then (0, some w) else (49, none)) else (2, b)
def delm (m : Nat → Nat) (A : Nat × Nat) (D : List Ent) (b : Option Nat) : Nat × List Ent × Option Nat := match whoM m A D with
  | .inl c => (c, D, b)
  | .inr k => if D.any (fun x => decide (x.2.2.2 = some k)) = true then (66, D, b) else (0, dlt D k, if b = some k then none else b.map (dlu k))
def addM (m : Nat → Nat) (A : Nat × Nat) (t : List ((Nat × Nat) × List (Nat × Nat))) (D : List Ent) : Nat ⊕ List Ent := match nr m A.1 A.2 with
  | none => .inl 34
  | some N => addm m D N t
def modM (m : Nat → Nat) (A : Nat × Nat) (c : Nat) (B : Nat × Nat) (L : List (Nat × Nat)) (D : List Ent) : Nat ⊕ List Ent := match whoM m A D with
  | .inl k => .inl k
  | .inr k => match D[k]? with
    | none => .inl 32
    | some x => put1 D k (mdm m c B L x)
def renM (m : Nat → Nat) (A B : Nat × Nat) (g : Bool) (D : List Ent) : Nat ⊕ List Ent := match nr m B.1 B.2 with
  | some [p] => (match whoM m A D with
    | .inl k => .inl k
    | .inr k => match D[k]? with
      | none => .inl 32
      | some x => put1 D k (rnm D k x p g))
  | _ => .inl 34
def cmpM (m : Nat → Nat) (A B C : Nat × Nat) (D : List Ent) : Nat := match whoM m A D with
  | .inl k => k
  | .inr k => match tyx m B with
    | none => 17
    | some t => match val m t C with
      | none => 21
      | some v => if (rowsM D k t).length = 0 then 16 else if hs (rowsM D k t) v.2 = true then 6 else 5
/-- u stands at or above w -/
def abv (D : List Ent) (u : Option Nat) : Nat → Option Nat → Bool
  | 0, _ => false
  | _ + 1, none => false
  | n + 1, some j => if some j = u then true else abv D u n (match D[j]? with
    | some x => x.2.2.2
    | none => none)
def isc (D : List Ent) (c : Nat) (u : Option Nat) (i : Nat) (x : Ent) : Bool := if c = 0 then decide (some i = u) else if c = 1 then decide (x.2.2.2 = u) else decide (u = none) || abv D u 3 (some i)
def mtc (m : Nat → Nat) (A : Nat → List Vl) (p e : Nat) : Bool := decide (cvs m A 200 p e = [2])
/-- the search's walk over the entries -/
def srl (D : List Ent) (d : Nat) (ok : Nat → Ent → Bool) (lim : Int32) : Nat → Nat → Nat → List Nat → Nat × Nat × List Nat
  | 0, _, fd, W => (0, fd, W)
  | k + 1, i, fd, W => match D[i]? with
    | none => (0, fd, W)
    | some x => if ok i x = true then (if ¬ lim = 0 ∧ nI fd = lim then (4, fd, W) else srl D d ok lim k (i + 1) (fd + 1) (W ++ enb D d i x)) else srl D d ok lim k (i + 1) fd W
def srcM (m : Nat → Nat) (e d : Nat) (A : Nat × Nat) (c : Nat) (lim : Int32) (p : Nat) (D : List Ent) : Nat × Nat × List Nat := match nr m A.1 A.2 with
  | none => (34, 0, [])
  | some N => match fdn D N with
    | none => (32, 0, [])
    | some u => srl D d (fun i x => isc D c u i x && mtc m x.1 p e) lim D.length 0 0 []
/-- code, entries, who is bound, how many were found, what goes out before the answer -/
abbrev Res : Type := Nat × List Ent × Option Nat × Nat × List Nat
def edr (D : List Ent) (b : Option Nat) (fd : Nat) (r : Nat ⊕ List Ent) : Res := match r with
  | .inl c => (c, D, b, fd, [])
  | .inr D' => (0, D', b, fd, [])
def prf (m : Nat → Nat) (e d op f : Nat) (D : List Ent) (b : Option Nat) (fd : Nat) : Res :=
  if op = 96 then (match bf m f e with | some q => ((bndm m D b q).1, D, (bndm m D b q).2, fd, []) | none => (0, D, b, fd, []))
  else if op = 104 then (match af m f e with | some q => edr D b fd (addM m q.1 q.2.2 D) | none => (0, D, b, fd, []))
  else if op = 74 then ((delm m (f, e) D b).1, (delm m (f, e) D b).2.1, (delm m (f, e) D b).2.2, fd, [])
  else if op = 102 then (match mf m f e with | some q => edr D b fd (modM m q.1 q.2.1 q.2.2.1 q.2.2.2.2 D) | none => (0, D, b, fd, []))
  else if op = 108 then (match nf m f e with | some q => edr D b fd (renM m q.1 q.2.1 (!decide (q.2.2.1 = 0)) D) | none => (0, D, b, fd, []))
  else if op = 110 then (match cf m f e with | some q => (cmpM m q.1 q.2.1 q.2.2 D, D, b, fd, []) | none => (0, D, b, fd, []))
  else (match sf m f e with | some q => ((srcM m e d q.1 q.2.1 q.2.2.1 q.2.2.2.1 D).1, D, b, (srcM m e d q.1 q.2.1 q.2.2.1 q.2.2.2.1 D).2.1, (srcM m e d q.1 q.2.1 q.2.2.1 q.2.2.2.1 D).2.2) | none => (0, D, b, fd, []))
def bok (D : List Ent) (b : Option Nat) : Prop := ∀ k, b = some k → k < D.length
theorem whoM_lt {m : Nat → Nat} {A : Nat × Nat} {D : List Ent} {k : Nat} (h : whoM m A D = .inr k) : k < D.length := by
  unfold whoM at h
  split at h
  · cases h
  · split at h
    · rename_i hf
      cases h
      exact fdn_lt hf
    · cases h
theorem whoM_code {m : Nat → Nat} {A : Nat × Nat} {D : List Ent} {k : Nat} (h : whoM m A D = .inl k) : k ≤ 69 := by
  unfold whoM at h
  split at h
  · cases h; omega
  · split at h
    · cases h
    · cases h; omega
theorem adv_ok {m : Nat → Nat} : ∀ {t : List ((Nat × Nat) × List (Nat × Nat))} {A B : Nat → List Vl}, (∀ x ∈ t, ∀ q ∈ x.2, ∀ j, j < q.2 → m j < 256) → (∀ i, i < 5 → wfr i (A i)) → adv m t A = .inr B → ∀ i, i < 5 → wfr i (B i) := by
  intro t
  induction t with
  | nil => intro A B _ hA h; cases h; exact hA
  | cons x t ih =>
    intro A B hb hA h
    rw [adv] at h
    cases hty : tyx m x.1 with
    | none => rw [hty] at h; cases h
    | some ty =>
      rw [hty] at h
      simp only at h
      by_cases h0 : (A ty).length = 0
      · rw [if_pos h0] at h
        cases hr : rdv m ty x.2 [] with
        | inl c => rw [hr] at h; cases h
        | inr R =>
          rw [hr] at h
          simp only at h
          by_cases h1 : R.length ≤ mo ty
          · rw [if_pos h1] at h
            have hok := rdv_ok (fun q hq j hj => hb x (by simp) q hq j hj) (fun v hv => by cases hv) (by simp) hr
            refine ih (fun y hy => hb y (by simp [hy])) (fun i hi => ?_) h
            by_cases hit : i = ty
            · subst hit; rw [setA_at]; exact ⟨hok.1, h1, hok.2.1⟩
            · rw [setA_ne hit]; exact hA i hi
          · rw [if_neg h1] at h; cases h
      · rw [if_neg h0] at h; cases h
theorem adv_code {m : Nat → Nat} : ∀ {t : List ((Nat × Nat) × List (Nat × Nat))} {A : Nat → List Vl} {c : Nat}, adv m t A = .inl c → c ≤ 69 := by
  intro t
  induction t with
  | nil => intro A c h; cases h
  | cons x t ih =>
    intro A c h
    rw [adv] at h
    cases hty : tyx m x.1 with
    | none => rw [hty] at h; cases h; omega
    | some ty =>
      rw [hty] at h
      simp only at h
      by_cases h0 : (A ty).length = 0
      · rw [if_pos h0] at h
        cases hr : rdv m ty x.2 [] with
        | inl k => rw [hr] at h; cases h; rcases rdv_code hr with rfl | rfl <;> omega
        | inr R =>
          rw [hr] at h
          simp only at h
          by_cases h1 : R.length ≤ mo ty
          · rw [if_pos h1] at h; exact ih h
          · rw [if_neg h1] at h; cases h; omega
      · rw [if_neg h0] at h; cases h; omega
theorem adn_ok {D D' : List Ent} {N : List (Nat × List Nat × List Nat)} {A : Nat → List Vl} (hi : inv D) (hp : wfp N) (hA : ∀ i, i < 5 → wfr i (A i)) (h : adn D N A = .inr D') : inv D' ∧ D.length ≤ D'.length := by
  unfold adn at h
  cases N with
  | nil => cases h
  | cons p r =>
    simp only at h
    by_cases h1 : (fdn D (p :: r)).isSome = true
    · rw [if_pos h1] at h; cases h
    rw [if_neg h1] at h
    cases hr : fdn D r with
    | none => rw [hr] at h; cases h
    | some u =>
      rw [hr] at h
      simp only at h
      by_cases h2 : D.length = 12
      · rw [if_pos h2] at h; cases h
      rw [if_neg h2] at h
      by_cases h3 : fitb A = true
      · rw [if_pos h3] at h
        by_cases h4 : hs (A p.1) p.2.2 = true
        · rw [if_pos h4] at h
          cases h
          have hpp := hp.2 p (by simp)
          have hlen := hp.1
          simp at hlen
          have hd := dpt_le (fdn_dpt hr) (2 - r.length)
          rw [show r.length + (2 - r.length) = 2 by omega] at hd
          have hcn : chd D u p.1 p.2.2 = none := by
            rw [fdn, hr] at h1
            cases hc : chd D u p.1 p.2.2 with
            | none => rfl
            | some k => exfalso; apply h1; show ((chd D u p.1 p.2.2).map some).isSome = true; rw [hc]; rfl
          refine ⟨inv_app hi (by have := hi.2.1; omega) ⟨hA, hpp.1, po_ok hpp.2.1 hpp.2.2.1 hpp.2.2.2⟩ h3 (fun w hw => ?_) hd (fun j y hy => chd_none hcn hy), by simp⟩
          have hw : u = some w := hw
          rw [hw] at hr
          exact fdn_lt hr
        · rw [if_neg h4] at h; cases h
      · rw [if_neg h3] at h; cases h
theorem adn_code {D : List Ent} {N : List (Nat × List Nat × List Nat)} {A : Nat → List Vl} {c : Nat} (h : adn D N A = .inl c) : c ≤ 69 := by
  unfold adn at h
  repeat' split at h
  all_goals first
    | (cases h; omega)
    | cases h
theorem addM_ok {m : Nat → Nat} {A : Nat × Nat} {t : List ((Nat × Nat) × List (Nat × Nat))} {D : List Ent} (hi : inv D) (hA : ∀ j, j < A.2 → m j < 256) (hb : ∀ x ∈ t, ∀ q ∈ x.2, ∀ j, j < q.2 → m j < 256) : (∀ D', addM m A t D = .inr D' → inv D' ∧ D.length ≤ D'.length) ∧ ∀ c, addM m A t D = .inl c → c ≤ 69 := by
  unfold addM
  cases hN : nr m A.1 A.2 with
  | none => exact ⟨fun D' h => (by cases h), fun c h => by cases h; omega⟩
  | some N =>
    simp only [addm]
    cases ha : adv m t (fun _ => []) with
    | inl c => exact ⟨fun D' h => (by cases h), fun c h => by cases h; exact adv_code ha⟩
    | inr B =>
      have hB := adv_ok hb (fun i hi => ⟨fun v hv => (by cases hv), by simp, by simp⟩) ha
      exact ⟨fun D' h => adn_ok hi (nr_ok hA hN) hB h, fun c h => adn_code h⟩
theorem mdm_ok {m : Nat → Nat} {c : Nat} {B : Nat × Nat} {L : List (Nat × Nat)} {x x' : Ent} (hw : wfe x) (hb : ∀ q ∈ L, ∀ j, j < q.2 → m j < 256) (h : mdm m c B L x = .inr x') : wfe x' ∧ fitb x'.1 = true ∧ x'.2 = x.2 := by
  unfold mdm at h
  cases hty : tyx m B with
  | none => rw [hty] at h; cases h
  | some t =>
    rw [hty] at h
    simp only at h
    cases hr : rdv m t L [] with
    | inl k => rw [hr] at h; cases h
    | inr S =>
      rw [hr] at h
      simp only at h
      have hok := rdv_ok hb (fun v hv => by cases hv) (by simp) hr
      cases hc : chg c t (x.1 t) S with
      | inl k => rw [hc] at h; cases h
      | inr R =>
        rw [hc] at h
        simp only at h
        by_cases h1 : hs (setA x.1 t R x.2.1) x.2.2.1 = true
        · rw [if_pos h1] at h
          by_cases h2 : stru (setA x.1 t R 0) = stru (x.1 0)
          · rw [if_pos h2] at h
            by_cases h3 : fitb (setA x.1 t R) = true
            · rw [if_pos h3] at h
              cases h
              refine ⟨⟨fun i hi => ?_, hw.2⟩, h3, rfl⟩
              by_cases hit : i = t
              · subst hit; show wfr i (setA x.1 i R i); rw [setA_at]; exact chg_ok (hw.1 i hi) hok.1 hok.2.1 hc
              · show wfr i (setA x.1 t R i); rw [setA_ne hit]; exact hw.1 i hi
            · rw [if_neg h3] at h; cases h
          · rw [if_neg h2] at h; cases h
        · rw [if_neg h1] at h; cases h
theorem mdm_code {m : Nat → Nat} {c k : Nat} {B : Nat × Nat} {L : List (Nat × Nat)} {x : Ent} (h : mdm m c B L x = .inl k) : k ≤ 69 := by
  unfold mdm at h
  split at h
  · cases h; omega
  · split at h
    · rename_i hr
      cases h
      rcases rdv_code hr with rfl | rfl <;> omega
    · split at h
      · rename_i hc
        cases h
        unfold chg at hc
        repeat' split at hc
        all_goals first
          | (cases hc; omega)
          | cases hc
      · repeat' split at h
        all_goals first
          | (cases h; omega)
          | cases h
theorem rnA_ok {x : Ent} {p : Nat × List Nat × List Nat} {g : Bool} (hw : wfe x) : ∀ i, i < 5 → wfr i (rnA x p g i) := by
  intro i hi
  unfold rnA
  split
  · by_cases hit : i = x.2.1
    · subst hit; rw [setA_at]
      have hwR := hw.1 x.2.1 hi
      exact ⟨fun v hv => hwR.1 v (List.mem_filter.mp hv).1, Nat.le_trans (List.length_filter_le _ _) hwR.2.1, List.Nodup.sublist (List.Sublist.map _ List.filter_sublist) hwR.2.2⟩
    · rw [setA_ne hit]; exact hw.1 i hi
  · exact hw.1 i hi
theorem rnB_ok {A : Nat → List Vl} {p : Nat × List Nat × List Nat} (hA : ∀ i, i < 5 → wfr i (A i)) (hp : (1 ≤ p.1 ∧ p.1 ≤ 3) ∧ (p.2.1.length ≤ 6 ∧ by8 p.2.1 ∧ po p.1 p.2.1 = some p.2.2)) : (∀ v ∈ rnB A p, vk p.1 v) ∧ ((rnB A p).map (fun v => v.2)).Nodup := by
  have hpt : p.1 < 5 := by omega
  constructor
  · intro v hv
    unfold rnB at hv
    split at hv
    · exact (hA p.1 hpt).1 v hv
    · rcases List.mem_append.mp hv with hv | hv
      · exact (hA p.1 hpt).1 v hv
      · simp at hv; subst hv; exact hp.2
  · unfold rnB
    split
    · exact (hA p.1 hpt).2.2
    · rename_i hno
      rw [List.map_append, List.nodup_append]
      refine ⟨(hA p.1 hpt).2.2, by simp, fun a ha b hb hab => hno ?_⟩
      simp at hb
      subst hab
      subst hb
      exact hs_mem.mpr ha
theorem rnm_ok {D : List Ent} {e : Nat} {x x' : Ent} {p : Nat × List Nat × List Nat} {g : Bool} (hi : inv D) (hx : D[e]? = some x) (hp : (1 ≤ p.1 ∧ p.1 ≤ 3) ∧ (p.2.1.length ≤ 6 ∧ by8 p.2.1 ∧ po p.1 p.2.1 = some p.2.2)) (h : rnm D e x p g = .inr x') : wfe x' ∧ fitb x'.1 = true ∧ x'.2.2.2 = x.2.2.2 ∧ ∀ j y, D[j]? = some y → y.2 = x'.2 → j = e := by
  have hw := (hi.1 e x hx).1
  unfold rnm at h
  by_cases h1 : chd D x.2.2.2 p.1 p.2.2 = none ∨ chd D x.2.2.2 p.1 p.2.2 = some e
  · rw [if_pos h1] at h
    by_cases h2 : (rnB (rnA x p g) p).length ≤ mo p.1
    · rw [if_pos h2] at h
      by_cases h3 : fitb (setA (rnA x p g) p.1 (rnB (rnA x p g) p)) = true
      · rw [if_pos h3] at h
        cases h
        have hB := rnB_ok (rnA_ok (p := p) (g := g) hw) hp
        refine ⟨⟨fun i hi => ?_, hp.1, po_ok hp.2.1 hp.2.2.1 hp.2.2.2⟩, h3, rfl, fun j y hy hyx => ?_⟩
        · show wfr i (setA (rnA x p g) p.1 (rnB (rnA x p g) p) i)
          by_cases hit : i = p.1
          · subst hit; rw [setA_at]; exact ⟨hB.1, h2, hB.2⟩
          · rw [setA_ne hit]; exact rnA_ok hw i hi
        · rcases h1 with h1 | h1
          · exact absurd hyx (chd_none h1 hy)
          · obtain ⟨z, hz, h4, h5, h6⟩ := chd_some h1
            refine hi.2.2.2 j e y z hy hz ?_
            rw [hyx]
            exact Prod.ext h5.symm (Prod.ext h6.symm h4.symm)
      · rw [if_neg h3] at h; cases h
    · rw [if_neg h2] at h; cases h
  · rw [if_neg h1] at h; cases h
theorem rnm_code {D : List Ent} {e k : Nat} {x : Ent} {p : Nat × List Nat × List Nat} {g : Bool} (h : rnm D e x p g = .inl k) : k ≤ 69 := by
  unfold rnm at h
  repeat' split at h
  all_goals first
    | (cases h; omega)
    | cases h
theorem put1_ok {D : List Ent} {e : Nat} {x : Ent} {r : Nat ⊕ Ent} (hi : inv D) (hx : D[e]? = some x) (h : ∀ x', r = .inr x' → wfe x' ∧ fitb x'.1 = true ∧ x'.2.2.2 = x.2.2.2 ∧ ∀ j y, D[j]? = some y → y.2 = x'.2 → j = e) (hc : ∀ c, r = .inl c → c ≤ 69) : (∀ D', put1 D e r = .inr D' → inv D' ∧ D.length ≤ D'.length) ∧ ∀ c, put1 D e r = .inl c → c ≤ 69 := by
  unfold put1
  cases r with
  | inl c => exact ⟨fun D' h => (by cases h), fun k h2 => by cases h2; exact hc c rfl⟩
  | inr x' =>
    have h := h x' rfl
    refine ⟨fun D' h2 => ?_, fun k h2 => by cases h2⟩
    cases h2
    exact ⟨inv_set hi hx h.2.2.1 h.1 h.2.1 h.2.2.2, by simp⟩
theorem modM_ok {m : Nat → Nat} {A B : Nat × Nat} {c : Nat} {L : List (Nat × Nat)} {D : List Ent} (hi : inv D) (hb : ∀ q ∈ L, ∀ j, j < q.2 → m j < 256) : (∀ D', modM m A c B L D = .inr D' → inv D' ∧ D.length ≤ D'.length) ∧ ∀ k, modM m A c B L D = .inl k → k ≤ 69 := by
  unfold modM
  cases hw : whoM m A D with
  | inl k => exact ⟨fun D' h => (by cases h), fun k h => by cases h; exact whoM_code hw⟩
  | inr k =>
    simp only
    cases hx : D[k]? with
    | none => exact ⟨fun D' h => (by cases h), fun k h => by cases h; omega⟩
    | some x =>
      refine put1_ok hi hx (fun x' h => ?_) (fun k h => mdm_code h)
      have := mdm_ok (hi.1 k x hx).1 hb h
      refine ⟨this.1, this.2.1, by rw [this.2.2], fun j y hy hyx => hi.2.2.2 j k y x hy hx (hyx.trans this.2.2)⟩
theorem renM_ok {m : Nat → Nat} {A B : Nat × Nat} {g : Bool} {D : List Ent} (hi : inv D) (hb : ∀ j, j < B.2 → m j < 256) : (∀ D', renM m A B g D = .inr D' → inv D' ∧ D.length ≤ D'.length) ∧ ∀ k, renM m A B g D = .inl k → k ≤ 69 := by
  unfold renM
  split
  · rename_i p hp
    have hpp := (nr_ok hb hp).2 p (by simp)
    cases hw : whoM m A D with
    | inl k => exact ⟨fun D' h => (by cases h), fun k h => by cases h; exact whoM_code hw⟩
    | inr k =>
      simp only
      cases hx : D[k]? with
      | none => exact ⟨fun D' h => (by cases h), fun k h => by cases h; omega⟩
      | some x => exact put1_ok hi hx (fun x' h => rnm_ok hi hx hpp h) (fun k h => rnm_code h)
  · exact ⟨fun D' h => (by cases h), fun c h => by cases h; omega⟩
theorem delm_ok {m : Nat → Nat} {A : Nat × Nat} {D : List Ent} {b : Option Nat} (hi : inv D) (hb : bok D b) : inv (delm m A D b).2.1 ∧ bok (delm m A D b).2.1 (delm m A D b).2.2 ∧ (delm m A D b).1 ≤ 69 := by
  unfold delm
  cases hw : whoM m A D with
  | inl k => exact ⟨hi, hb, whoM_code hw⟩
  | inr k =>
    have hk := whoM_lt hw
    simp only
    by_cases h1 : D.any (fun x => decide (x.2.2.2 = some k)) = true
    · rw [if_pos h1]; exact ⟨hi, hb, by show 66 ≤ 69; omega⟩
    · rw [if_neg h1]
      have hno : ∀ (i : Nat) (x : Ent), D[i]? = some x → x.2.2.2 ≠ some k := fun i x hx hu => h1 (List.any_eq_true.mpr ⟨x, List.mem_of_getElem? hx, by simp [hu]⟩)
      refine ⟨inv_dlt hi hk hno, fun j hj => ?_, Nat.zero_le _⟩
      have hlen : (dlt D k).length = D.length - 1 := by simp [dlt, List.length_eraseIdx, hk]
      show j < (dlt D k).length
      have hj : (if b = some k then none else b.map (dlu k)) = some j := hj
      by_cases hbk : b = some k
      · rw [if_pos hbk] at hj; cases hj
      · rw [if_neg hbk] at hj
        obtain ⟨w, hw2, rfl⟩ := Option.map_eq_some_iff.mp hj
        have h3 := hb w hw2
        have h4 : w ≠ k := fun z => hbk (by rw [hw2, z])
        rw [hlen]
        unfold dlu
        split <;> omega
theorem srl_ok {D : List Ent} {d : Nat} {ok : Nat → Ent → Bool} {lim : Int32} (hi : inv D) : ∀ (k i fd : Nat) (W : List Nat), i + k = D.length → fd ≤ i → W.length ≤ 146 * i → (srl D d ok lim k i fd W).1 ≤ 69 ∧ (srl D d ok lim k i fd W).2.1 ≤ 12 ∧ (srl D d ok lim k i fd W).2.2.length ≤ 146 * 12 := by
  have h12 := hi.2.1
  intro k
  induction k with
  | zero => intro i fd W h1 h2 h3; exact ⟨Nat.zero_le _, by show fd ≤ 12; omega, by show W.length ≤ 146 * 12; omega⟩
  | succ k ih =>
    intro i fd W h1 h2 h3
    obtain ⟨x, hx⟩ : ∃ x, D[i]? = some x := ⟨_, List.getElem?_eq_getElem (by omega)⟩
    have hen := enb_146 (d := d) (e := i) hi.1 (hi.1 i x hx).1 (hi.2.2.1 i x hx).1
    rw [srl, hx]
    simp only
    by_cases ho : ok i x = true
    · rw [if_pos ho]
      by_cases hl : ¬ lim = 0 ∧ nI fd = lim
      · rw [if_pos hl]; exact ⟨by show 4 ≤ 69; omega, by show fd ≤ 12; omega, by show W.length ≤ 146 * 12; omega⟩
      · rw [if_neg hl]; exact ih (i + 1) (fd + 1) _ (by omega) (by omega) (by rw [List.length_append]; omega)
    · rw [if_neg ho]; exact ih (i + 1) fd W (by omega) (by omega) (by omega)

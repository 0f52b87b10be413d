/-! the class's tree -/
/-- an entry: its rows by type, the type and the plain value of its name part, its parent's place -/
abbrev Ent : Type := (Nat → List Vl) × Nat × List Nat × Option Nat
theorem ent0 : ∀ x, x < 273 → xS0[x]? = some (5, 0) → 23 ≤ x ∧ ((x < 227 ∧ (x - 23) % 17 = 0) ∨ x = 228) := by decide +kernel
theorem ent_far {x y : Nat} (hx : xS0[x]? = some (5, 0)) (hy : xS0[y]? = some (5, 0)) (h : x ≠ y) : x + 17 ≤ y ∨ y + 17 ≤ x := by
  have h1 := ent0 x (x_lt0 hx) hx
  have h2 := ent0 y (x_lt0 hy) hy
  omega
theorem xEn.far {I I' : xIt} {J J' : xJt} {P P' : xPt} {y : Nat} {A : Nat → List (Int64 × Int64)} {nt : Nat} {nv : Int64} {ab : Option Nat} (h : xEn I J P y A nt nv ab) (hI : ∀ b k, y ≤ b → b < y + 17 → I' b k = I b k) (hJ : ∀ b k, y ≤ b → b < y + 17 → J' b k = J b k) (hP : P' y 1 = P y 1) : xEn I' J' P' y A nt nv ab := by
  refine ⟨fun t ht => ?_, (hI _ _ (by omega) (by omega)).trans h.2.1, h.2.2.1, (hJ _ _ (by omega) (by omega)).trans h.2.2.2.1, hP.trans h.2.2.2.2⟩
  have h2 := h.1 t ht
  exact ⟨(hI _ _ (by omega) (by omega)).trans h2.1, h2.2.1, fun i x hi => ⟨(hJ _ _ (by omega) (by omega)).trans (h2.2.2 i x hi).1, (hJ _ _ (by omega) (by omega)).trans (h2.2.2 i x hi).2⟩⟩
def mo (t : Nat) : Nat := if t = 0 ∨ t = 2 then 3 else 1
/-- a row of values of type t -/
def wfr (t : Nat) (R : List Vl) : Prop := (∀ v ∈ R, vk t v) ∧ R.length ≤ mo t ∧ (R.map (fun v => v.2)).Nodup
def wfe (x : Ent) : Prop := (∀ t, t < 5 → wfr t (x.1 t)) ∧ (1 ≤ x.2.1 ∧ x.2.1 ≤ 3) ∧ x.2.2.1.length ≤ 6 ∧ by8 x.2.2.1
def wf (D : List Ent) : Prop := ∀ (i : Nat) (x : Ent), D[i]? = some x → wfe x ∧ ∀ u, x.2.2.2 = some u → u < i
/-- the tree: o tells the object at each place -/
def xTr (I : xIt) (J : xJt) (P : xPt) (o : Nat → Nat) (D : List Ent) : Prop := I 21 1 = nI D.length ∧ D.length ≤ 12 ∧ (∀ i, i < 12 → P 22 i = some (o i) ∧ xS0[o i]? = some (5, 0) ∧ o i < 227) ∧ (∀ i j, i < 12 → j < 12 → o i = o j → i = j) ∧ ∀ (i : Nat) (x : Ent), D[i]? = some x → xEn I J P (o i) (fun t => pkr (x.1 t)) x.2.1 (pkd x.2.2.1) (x.2.2.2.map o)
theorem up_inj {o : Nat → Nat} (ho : ∀ i j, i < 12 → j < 12 → o i = o j → i = j) {a b : Option Nat} (ha : ∀ u, a = some u → u < 12) (hb : ∀ u, b = some u → u < 12) (h : a.map o = b.map o) : a = b := by
  cases a with
  | none => cases b with
    | none => rfl
    | some b => cases h
  | some a => cases b with
    | none => cases h
    | some b =>
      simp at h
      rw [ho a b (ha a rfl) (hb b rfl) h]
/-- the place of the child of u with the part (t, v) -/
def chb (u : Option Nat) (t : Nat) (v : List Nat) (x : Ent) : Bool := decide (x.2.2.2 = u) && (decide (x.2.1 = t) && decide (x.2.2.1 = v))
def chd (D : List Ent) (u : Option Nat) (t : Nat) (v : List Nat) : Option Nat := D.findIdx? (chb u t v)
/-- the entry with a name's parts: some none is the root, none is no entry -/
def fdn (D : List Ent) : List (Nat × List Nat × List Nat) → Option (Option Nat)
  | [] => some none
  | p :: r => (fdn D r).bind fun u => (chd D u p.1 p.2.2).map some
theorem chd_lt {D : List Ent} {u : Option Nat} {t i : Nat} {v : List Nat} (h : chd D u t v = some i) : i < D.length := by
  obtain ⟨h1, -⟩ := List.findIdx?_eq_some_iff_findIdx_eq.mp h
  exact h1
theorem fdn_lt {D : List Ent} {L : List (Nat × List Nat × List Nat)} {i : Nat} (h : fdn D L = some (some i)) : i < D.length := by
  cases L with
  | nil => cases h
  | cons p r =>
    rw [fdn] at h
    obtain ⟨u, hu, h⟩ := Option.bind_eq_some_iff.mp h
    obtain ⟨j, hj, h⟩ := Option.map_eq_some_iff.mp h
    cases h
    exact chd_lt hj
theorem drop_find {α : Type} {D : List α} {p : α → Bool} {j : Nat} (h : ∀ i x, i < j → D[i]? = some x → p x = false) : D.findIdx? p = ((D.drop j).findIdx? p).map (fun i => i + j) := by
  induction j generalizing D with
  | zero => simp
  | succ j ih =>
    cases D with
    | nil => simp
    | cons a D =>
      rw [List.findIdx?_cons, h 0 a (by omega) rfl, List.drop_succ_cons, ih (fun i x hi hx => h (i + 1) x (by omega) (by simpa using hx))]
      cases (D.drop j).findIdx? p <;> simp; omega
section XTR
variable {l : Launch} {V : xV} {I : xIt} {J : xJt} {P : xPt} {o : Nat → Nat} {D : List Ent}
def eAt (o : Nat → Nat) (D : List Ent) (e : Int32) : Option Nat := if e < 0 ∨ nI D.length ≤ e then none else some (o e.toNatClampNeg)
set_option maxRecDepth 20000 in
theorem c_TR_entryAt {e : Int32} (hL : xL P) (hT : xTr I J P o D) : xMet l V y_TR_entryAt 1 0 0 [xq (some 21), xi e] xS0 I J P (xPq (fun r I' J' P' => I = I' ∧ J = J' ∧ P = P' ∧ r = eAt o D e)) := by
  have h12 := hT.2.1
  refine e_TR_entryAt (b_TR_entryAt_0 hL ?_)
  rw [hT.1]
  refine ⟨fun z => ⟨rfl, rfl, rfl, by rw [eAt, if_pos (Or.inl z)]⟩, fun z => ⟨fun z2 => ⟨rfl, rfl, rfl, by rw [eAt, if_pos (Or.inr z2)]⟩, fun z2 => ?_⟩⟩
  rcases pk_ix e (n := D.length) (by omega) with h | h | ⟨j, hj, rfl⟩
  · exact absurd h z
  · exact absurd h z2
  · refine ⟨pk_in j 12 (by omega), rfl, rfl, rfl, ?_⟩
    rw [eAt, if_neg (fun w => w.elim z z2), pk_cl j]
    exact (hT.2.2.1 j (by omega)).1
set_option maxRecDepth 20000 in
theorem c_TR_placeOf {i : Nat} (hL : xL P) (hT : xTr I J P o D) (hi : i < D.length) : xMet l V y_TR_placeOf 1 0 0 [xq (some 21), xq (some (o i))] xS0 I J P (xPi (fun r I' J' P' => I = I' ∧ J = J' ∧ P = P' ∧ r = nI i)) := by
  have h12 := hT.2.1
  have loop : ∀ (k j : Nat), j + k = i → G_TR_placeOf l V (fun r I' J' P' => I = I' ∧ J = J' ∧ P = P' ∧ r = nI i) 2 [(0, xq (some 21)), (1, xq (some (o i))), (2, xi (nI j))] [] I J P := by
    intro k
    induction k with
    | zero =>
      intro j hj
      have : j = i := by omega
      subst this
      refine b_TR_placeOf_2 hL ?_
      rw [hT.1]
      refine pk_le D.length j (fun z => by omega) (fun _ => ⟨pk_in j 12 (by omega), ?_⟩)
      rw [pk_cl j, (hT.2.2.1 j (by omega)).1]
      exact ⟨fun z => absurd rfl z, fun _ => ⟨rfl, rfl, rfl, rfl⟩⟩
    | succ k ih =>
      intro j hj
      refine b_TR_placeOf_2 hL ?_
      rw [hT.1]
      refine pk_le D.length j (fun z => by omega) (fun _ => ⟨pk_in j 12 (by omega), ?_⟩)
      rw [pk_cl j, (hT.2.2.1 j (by omega)).1, nI_1]
      refine ⟨fun _ => ih (j + 1) (by omega), fun z => ?_⟩
      have := hT.2.2.2.1 j i (by omega) (by omega) (Option.some.inj z)
      omega
  exact e_TR_placeOf (b_TR_placeOf_0 hL (loop i 0 (by omega)))
set_option maxRecDepth 20000 in
theorem c_TR_hasBelow {e : Nat} (hL : xL P) (hT : xTr I J P o D) (hW : wf D) (he : e < D.length) : xMet l V y_TR_hasBelow 1 0 0 [xq (some 21), xq (some (o e))] xS0 I J P (xPi (fun r I' J' P' => I = I' ∧ J = J' ∧ P = P' ∧ r = if D.any (fun x => decide (x.2.2.2 = some e)) = true then 1 else 0)) := by
  have h12 := hT.2.1
  have loop : ∀ (k j : Nat), j + k = D.length → (D.any (fun x => decide (x.2.2.2 = some e)) = (D.drop j).any (fun x => decide (x.2.2.2 = some e))) → G_TR_hasBelow l V (fun r I' J' P' => I = I' ∧ J = J' ∧ P = P' ∧ r = if D.any (fun x => decide (x.2.2.2 = some e)) = true then 1 else 0) 2 [(0, xq (some 21)), (1, xq (some (o e))), (2, xi (nI j))] [] I J P := by
    intro k
    induction k with
    | zero =>
      intro j hj hx
      refine b_TR_hasBelow_2 hL ?_
      rw [hT.1]
      refine pk_le D.length j (fun _ => ⟨rfl, rfl, rfl, ?_⟩) (fun z => by omega)
      rw [hx, List.drop_eq_nil_of_le (by omega)]
      rfl
    | succ k ih =>
      intro j hj hx
      have hjl : j < D.length := by omega
      have hg := List.getElem?_eq_getElem hjl
      have hE := hT.2.2.2.2 j _ hg
      have hu := (hW j _ hg).2
      rw [List.drop_eq_getElem_cons hjl, List.any_cons] at hx
      refine b_TR_hasBelow_2 hL ?_
      rw [hT.1]
      refine pk_le D.length j (fun z => by omega) (fun _ => ⟨pk_in j 12 (by omega), ?_⟩)
      rw [pk_cl j, nI_1]
      refine ⟨o j, (hT.2.2.1 j (by omega)).1, (hT.2.2.1 j (by omega)).2.1, ?_⟩
      rw [hE.2.2.2.2]
      by_cases hc : D[j].2.2.2 = some e
      · exact ⟨fun z => absurd (by rw [hc]; rfl) z, fun _ => ⟨rfl, rfl, rfl, by rw [hx]; simp [hc]⟩⟩
      · refine ⟨fun _ => ih (j + 1) (by omega) (by rw [hx]; simp [hc]), fun z => absurd (up_inj hT.2.2.2.1 (b := some e) (fun u hu' => ?_) (fun u hu' => ?_) z) hc⟩
        · have := hu u hu'; omega
        · cases hu'; omega
  exact e_TR_hasBelow (b_TR_hasBelow_0 hL (loop D.length 0 (by omega) (by simp)))
set_option maxRecDepth 20000 in
theorem c_TR_isFull (hL : xL P) (hT : xTr I J P o D) : xMet l V y_TR_isFull 1 0 0 [xq (some 21)] xS0 I J P (xPi (fun r I' J' P' => I = I' ∧ J = J' ∧ P = P' ∧ r = if D.length = 12 then 1 else 0)) := by
  have h12 := hT.2.1
  exact e_TR_isFull (b_TR_isFull_0 hL (pk_eq D.length 12 (fun z => ⟨rfl, rfl, rfl, by rw [if_pos z]⟩) (fun z => ⟨rfl, rfl, rfl, by rw [if_neg z]⟩) hT.1).symm)
set_option maxRecDepth 20000 in
theorem c_TR_childOf {u : Option Nat} {t : Nat} {v : List Nat} (hL : xL P) (hT : xTr I J P o D) (hW : wf D) (hu : ∀ w, u = some w → w < 12) (ht : t < 256) (hv : v.length ≤ 6 ∧ by8 v) : xMet l V y_TR_childOf 2 0 0 [xq (some 21), xq (u.map o), xi (nI t), xj (pkd v)] xS0 I J P (xPq (fun r I' J' P' => I = I' ∧ J = J' ∧ P = P' ∧ r = (chd D u t v).map o)) := by
  have h12 := hT.2.1
  have loop : ∀ (k j : Nat), j + k = D.length → (∀ i x, i < j → D[i]? = some x → chb u t v x = false) → G_TR_childOf l V (fun r I' J' P' => I = I' ∧ J = J' ∧ P = P' ∧ r = (chd D u t v).map o) 3 [(0, xq (some 21)), (1, xq (u.map o)), (2, xi (nI t)), (3, xj (pkd v)), (5, xi (nI j))] [] I J P := by
    intro k
    induction k with
    | zero =>
      intro j hj hn
      refine b_TR_childOf_3 hL ?_
      rw [hT.1]
      refine pk_le D.length j (fun _ => ⟨rfl, rfl, rfl, ?_⟩) (fun z => by omega)
      rw [chd, drop_find hn, List.drop_eq_nil_of_le (by omega)]
      rfl
    | succ k ih =>
      intro j hj hn
      have hjl : j < D.length := by omega
      have hg := List.getElem?_eq_getElem hjl
      have hE := hT.2.2.2.2 j _ hg
      have hw := hW j _ hg
      have next : chb u t v D[j] = false → G_TR_childOf l V (fun r I' J' P' => I = I' ∧ J = J' ∧ P = P' ∧ r = (chd D u t v).map o) 3 [(0, xq (some 21)), (1, xq (u.map o)), (2, xi (nI t)), (3, xj (pkd v)), (5, xi (nI (j + 1)))] [] I J P := fun hc => ih (j + 1) (by omega) (fun i x hi hx => by
        by_cases hij : i = j
        · subst hij
          rw [hg] at hx
          cases hx
          exact hc
        · exact hn i x (by omega) hx)
      refine b_TR_childOf_3 hL ?_
      rw [hT.1]
      refine pk_le D.length j (fun z => by omega) (fun _ => ⟨pk_in j 12 (by omega), ?_⟩)
      rw [pk_cl j, nI_1]
      refine ⟨o j, (hT.2.2.1 j (by omega)).1, (hT.2.2.1 j (by omega)).2.1, ?_⟩
      rw [hE.2.2.2.2, (hT.2.2.1 j (by omega)).1]
      by_cases hc : D[j].2.2.2 = u
      · refine ⟨fun z => absurd (by rw [hc]) z, fun _ => ⟨_, c_EN_isNamed hL (hT.2.2.1 j (by omega)).2.1 hE ht, ?_⟩⟩
        rintro w I1 _ _ ⟨rfl, rfl, rfl, rfl⟩
        by_cases hd : D[j].2.1 = t ∧ D[j].2.2.1 = v
        · rw [if_pos ⟨hd.1, by rw [hd.2]⟩]
          refine ⟨fun z => absurd z (by decide), fun _ => ⟨rfl, rfl, rfl, ?_⟩⟩
          rw [chd, drop_find hn, List.drop_eq_getElem_cons hjl, List.findIdx?_cons, show chb u t v D[j] = true from by simp [chb, hc, hd.1, hd.2]]
          simp
        · rw [if_neg (fun z => hd ⟨z.1, pkd_inj hw.1.2.2.1 hw.1.2.2.2 hv.1 hv.2 z.2⟩)]
          exact ⟨fun _ => next (by simp only [chb]; rw [decide_eq_true hc, Bool.true_and, ← Bool.decide_and, decide_eq_false hd]), fun z => absurd rfl z⟩
      · refine ⟨fun _ => next (by simp [chb, hc]), fun z => absurd (up_inj hT.2.2.2.1 (fun w hw' => ?_) hu z) hc⟩
        have := hw.2 w hw'; omega
  exact e_TR_childOf (b_TR_childOf_0 hL (loop D.length 0 (by omega) (fun i x hi => by omega)))
/-- parts as a name has them -/
def wfp (L : List (Nat × List Nat × List Nat)) : Prop := L.length ≤ 3 ∧ ∀ p ∈ L, (1 ≤ p.1 ∧ p.1 ≤ 3) ∧ (p.2.1.length ≤ 6 ∧ by8 p.2.1 ∧ po p.1 p.2.1 = some p.2.2)
set_option maxRecDepth 20000 in
theorem c_TR_find {a f : Nat} {L : List (Nat × List Nat × List Nat)} (hL : xL P) (hT : xTr I J P o D) (hW : wf D) (ha : xS0[a]? = some (3, 0)) (hN : xNm I J a L) (hp : wfp L) (hf : f ≤ 1) : xMet l V y_TR_find 3 0 0 [xq (some 21), xq (some a), xi (nI f)] xS0 I J P (xPq (fun r I' J' P' => I = I' ∧ J = J' ∧ P = P' ∧ r = ((fdn D (L.drop f)).bind id).map o)) := by
  have h12 := hT.2.1
  have h3 := hp.1
  have loop : ∀ (k j : Nat) (u : Option Nat) (v4 : Int32), j = f + k → (k = 0 → v4 < nI f) → (0 < k → v4 = nI (j - 1)) → j ≤ max f L.length → fdn D (L.drop j) = some u → G_TR_find l V (fun r I' J' P' => I = I' ∧ J = J' ∧ P = P' ∧ r = ((fdn D (L.drop f)).bind id).map o) 10 [(0, xq (some 21)), (1, xq (some a)), (2, xi (nI f)), (3, xq (u.map o)), (4, xi v4)] [] I J P := by
    intro k
    induction k with
    | zero =>
      intro j u v4 hj h0 h1 hjl hx
      refine b_TR_find_10 hL ⟨fun _ => ⟨rfl, rfl, rfl, ?_⟩, fun z => absurd (h0 rfl) z⟩
      rw [show f = j by omega, hx]
      rfl
    | succ k ih =>
      intro j u v4 hj h0 h1 hjl hx
      have h4 := h1 (by omega)
      subst h4
      have hjL : j ≤ L.length := by omega
      have hjl' : j - 1 < L.length := by omega
      have hg := hN.2 (j - 1) _ (List.getElem?_eq_getElem hjl')
      have hpp := hp.2 L[j - 1] (List.getElem_mem hjl')
      have hd : L.drop (j - 1) = L[j - 1] :: L.drop j := by rw [List.drop_eq_getElem_cons hjl', show j - 1 + 1 = j by omega]
      refine b_TR_find_10 hL (pk_lt (j - 1) f (fun z => by omega) (fun _ => ⟨a, rfl, ha, pk_in (j - 1) 3 (by omega), pk_in (j - 1) 3 (by omega), ?_⟩))
      rw [pk_cl (j - 1), hg.1, hg.2.2]
      refine ⟨_, c_TR_childOf hL hT hW (fun w hw => ?_) (by omega) (po_ok hpp.2.1 hpp.2.2.1 hpp.2.2.2), ?_⟩
      · rw [hw] at hx
        have := fdn_lt hx
        omega
      rintro w I1 _ _ ⟨rfl, rfl, rfl, rfl⟩
      have hfd : fdn D (L.drop (j - 1)) = (chd D u L[j - 1].1 L[j - 1].2.2).map some := by rw [hd, fdn, hx]; rfl
      cases hc : chd D u L[j - 1].1 L[j - 1].2.2 with
      | none =>
        rw [hc] at hfd
        refine ⟨fun z => absurd rfl z, fun _ => ⟨rfl, rfl, rfl, ?_⟩⟩
        have hnone : ∀ i, i ≤ j - 1 → fdn D (L.drop i) = none := by
          intro i
          induction h : j - 1 - i generalizing i with
          | zero => intro hi; rw [show i = j - 1 by omega]; exact hfd
          | succ n ihn =>
            intro hi
            have hil : i < L.length := by omega
            rw [List.drop_eq_getElem_cons hil, fdn, ihn (i + 1) (by omega) (by omega)]
            rfl
        rw [hnone f (by omega)]
        rfl
      | some c =>
        rw [hc] at hfd
        refine ⟨fun _ => ?_, fun z => by cases z⟩
        refine ih (j - 1) (some c) (nI (j - 1) + -1) (by omega) (fun hk => ?_) (fun hk => ?_) (by omega) hfd
        · subst hk
          have hjf : j - 1 = f := by omega
          rw [hjf]
          rcases Nat.eq_zero_or_pos f with rfl | hf0
          · decide
          · have : f = 1 := by omega
            subst this
            decide
        · rw [show j - 1 = (j - 1 - 1) + 1 by omega, pk_m1]
          rfl
  refine e_TR_find (b_TR_find_0 hL ⟨a, rfl, ha, ?_⟩)
  rw [hN.1]
  by_cases hfl : L.length ≤ f
  · refine loop 0 f none _ rfl (fun _ => ?_) (fun z => by omega) (by omega) (by rw [List.drop_eq_nil_of_le hfl]; rfl)
    have hcase : (L.length = 0 ∧ f = 0) ∨ (L.length = 0 ∧ f = 1) ∨ (L.length = 1 ∧ f = 1) := by omega
    rcases hcase with ⟨h, rfl⟩ | ⟨h, rfl⟩ | ⟨h, rfl⟩ <;> rw [h] <;> decide
  · exact loop (L.length - f) L.length none _ (by omega) (fun z => by omega) (fun _ => pk_sub (b := 1) (by omega)) (by omega) (by rw [List.drop_eq_nil_of_le (Nat.le_refl _)]; rfl)
end XTR

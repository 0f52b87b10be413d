/-! values, rows and entries as lists; the class's schema -/
abbrev Vl : Type := List Nat × List Nat
def pkr (R : List Vl) : List (Int64 × Int64) := R.map (fun x => (pkd x.1, pkd x.2))
/-- a value of type t: one to six bytes, with its plain form -/
def vk (t : Nat) (v : Vl) : Prop := v.1.length ≤ 6 ∧ by8 v.1 ∧ po t v.1 = some v.2
theorem vk0 {v : Vl} (h : vk 0 v) : ∃ c, v.2 = [c] ∧ 97 ≤ c ∧ c ≤ 122 := by
  obtain ⟨h1, h2, h3⟩ := h
  obtain ⟨L, q⟩ := v
  unfold po at h3
  by_cases hne : L = []
  · rw [if_pos hne] at h3; cases h3
  rw [if_neg hne] at h3
  cases L with
  | nil => exact absurd rfl hne
  | cons c u => cases u with
    | nil =>
      have h : (if 97 ≤ low c ∧ low c ≤ 122 then some [low c] else none) = some q := h3
      by_cases hc : 97 ≤ low c ∧ low c ≤ 122
      · rw [if_pos hc] at h
        cases h
        exact ⟨low c, rfl, hc⟩
      · rw [if_neg hc] at h; cases h
    | cons d v => cases h3
theorem vk_pl {t : Nat} {v : Vl} (h : vk t v) : v.2.length ≤ 6 ∧ by8 v.2 := po_ok h.1 h.2.1 h.2.2
theorem pkr_get {R : List Vl} {i : Nat} {v : Vl} (h : R[i]? = some v) : (pkr R)[i]? = some (pkd v.1, pkd v.2) := by
  simp [pkr, List.getElem?_map, h]
theorem pkr_len (R : List Vl) : (pkr R).length = R.length := by simp [pkr]
/-- is the plain value there -/
def hs (R : List Vl) (q : List Nat) : Bool := R.any (fun x => x.2 == q)
theorem pkr_any {t : Nat} {q : List Nat} (hq : q.length ≤ 6 ∧ by8 q) : ∀ {R : List Vl}, (∀ v ∈ R, vk t v) → (pkr R).any (fun x => x.2 == pkd q) = hs R q := by
  intro R
  induction R with
  | nil => intro _; rfl
  | cons v R ih =>
    intro hR
    have h := vk_pl (hR v (by simp))
    have h2 := ih (fun w hw => hR w (by simp [hw]))
    show ((pkd v.2 == pkd q) || (pkr R).any (fun x => x.2 == pkd q)) = ((v.2 == q) || hs R q)
    rw [h2]
    by_cases hc : v.2 = q
    · rw [hc]; simp
    · rw [beq_eq_false_iff_ne.mpr hc, beq_eq_false_iff_ne.mpr (fun z => hc (pkd_inj h.1 h.2 hq.1 hq.2 z))]
def cb (g h x o : Bool) : Int32 := (if g then 1 else 0) ||| (if h then 2 else 0) ||| (if x then 4 else 0) ||| (if o then 8 else 0)
theorem cb1 : ∀ g h x o, cb g h x o ||| 1 = cb true h x o := by decide
theorem cb2 : ∀ g h x o, cb g h x o ||| 2 = cb g true x o := by decide
theorem cb4 : ∀ g h x o, cb g h x o ||| 4 = cb g h true o := by decide
theorem cb8 : ∀ g h x o, cb g h x o ||| 8 = cb g h x true := by decide
def hso (R : List Vl) : Bool := R.any (fun x => !(x.2 == [103]) && (!(x.2 == [104]) && !(x.2 == [120])))
def cset (R : List Vl) : Int32 := cb (hs R [103]) (hs R [104]) (hs R [120]) (hso R)
def stru (R : List Vl) : Nat := (if hs R [103] then 1 else 0) + (if hs R [104] then 2 else 0)
/-- does the entry with these rows fit the schema -/
def fit6 (g h x o : Bool) (n1 n3 n4 : Nat) : Bool := (g ^^ h) && (!o && (decide (0 < n1) && (if h then decide (0 < n3) else (x || (decide (n3 = 0) && decide (n4 = 0))))))
def fitb (A : Nat → List Vl) : Bool := fit6 (hs (A 0) [103]) (hs (A 0) [104]) (hs (A 0) [120]) (hso (A 0)) (A 1).length (A 3).length (A 4).length
theorem hs_cons (v : Vl) (R : List Vl) (q : List Nat) : hs (v :: R) q = ((v.2 == q) || hs R q) := by simp [hs]
theorem hso_cons (v : Vl) (R : List Vl) : hso (v :: R) = ((!(v.2 == [103]) && (!(v.2 == [104]) && !(v.2 == [120]))) || hso R) := by simp [hso]
section XEN3
variable {l : Launch} {V : xV} {I : xIt} {J : xJt} {P : xPt} {x : Nat} {A : Nat → List Vl} {nt : Nat} {nv : Int64} {ab : Option Nat}
set_option maxRecDepth 20000 in
theorem c_EN_classSet (hL : xL P) (hx : xS0[x]? = some (5, 0)) (hE : xEn I J P x (fun t => pkr (A t)) nt nv ab) (hA : ∀ v ∈ A 0, vk 0 v) : xMet l V y_EN_classSet 2 0 0 [xq (some x)] xS0 I J P (xPi (fun r I' J' P' => I = I' ∧ J = J' ∧ P = P' ∧ r = cset (A 0))) := by
  have hr := en_row hL hx (show 0 < 5 by decide)
  have hRw := hE.1 0 (by decide)
  have hc := vr_cap (show xS0[x + 2]? = some (6, 0) from hr.2)
  have hlen : (pkr (A 0)).length ≤ xLn (x + 2 + 1) := hRw.2.1
  rw [pkr_len] at hlen
  have loop : ∀ (k j : Nat) (g h z o : Bool), j + k = (A 0).length → (hs (A 0) [103] = (g || hs ((A 0).drop j) [103])) → (hs (A 0) [104] = (h || hs ((A 0).drop j) [104])) → (hs (A 0) [120] = (z || hs ((A 0).drop j) [120])) → (hso (A 0) = (o || hso ((A 0).drop j))) → G_EN_classSet l V (fun r I' J' P' => I = I' ∧ J = J' ∧ P = P' ∧ r = cset (A 0)) 11 [(0, xq (some x)), (1, xq (some (x + 2))), (2, xi (cb g h z o)), (3, xi (nI j))] [] I J P := by
    intro k
    induction k with
    | zero =>
      intro j g h z o hj h1 h2 h3 h4
      rw [List.drop_eq_nil_of_le (by omega)] at h1 h2 h3 h4
      refine b_EN_classSet_11 hL hx ⟨x + 2, rfl, hr.2, ?_⟩
      refine pk_le (A 0).length j (fun _ => ⟨rfl, rfl, rfl, ?_⟩) (fun w => by omega) (hRw.1.trans (by rw [pkr_len]))
      rw [cset, h1, h2, h3, h4]
      simp [hs, hso]
    | succ k ih =>
      intro j g h z o hj h1 h2 h3 h4
      have hjl : j < (A 0).length := by omega
      have hg := hRw.2.2 j _ (pkr_get (List.getElem?_eq_getElem hjl))
      obtain ⟨c, hc1, hc2, hc3⟩ := vk0 (hA (A 0)[j] (List.getElem_mem hjl))
      rw [List.drop_eq_getElem_cons hjl] at h1 h2 h3 h4
      refine b_EN_classSet_11 hL hx ⟨x + 2, rfl, hr.2, ?_⟩
      refine pk_le (A 0).length j (fun w => by omega) (fun _ => ⟨pk_in j _ (by omega), ?_⟩) (hRw.1.trans (by rw [pkr_len]))
      rw [pk_cl j, nI_1, hg.2, hc1]
      refine ⟨_, c_PK_byteAt (L := [c]) (j := 0) (b := c) hL (by simp) (fun b hb => by simp at hb; omega) rfl, ?_⟩
      rintro w I1 _ _ ⟨rfl, rfl, rfl, rfl⟩
      have cv : ∀ k, k < 256 → (nI c = nI k ↔ c = k) := fun k hk => nI_eq (by omega) (by omega)
      refine ⟨fun w => ?_, fun w => ?_, fun w => ?_, fun w1 w2 w3 => ?_⟩
      · have hw := (cv 103 (by omega)).mp w
        subst hw
        rw [cb1]
        refine ih (j + 1) true h z o (by omega) ?_ ?_ ?_ ?_
        · rw [h1, hs_cons, hc1]; simp
        · rw [h2, hs_cons, hc1]; simp
        · rw [h3, hs_cons, hc1]; simp
        · rw [h4, hso_cons, hc1]; simp
      · have hw := (cv 104 (by omega)).mp w
        subst hw
        rw [cb2]
        refine ih (j + 1) g true z o (by omega) ?_ ?_ ?_ ?_
        · rw [h1, hs_cons, hc1]; simp
        · rw [h2, hs_cons, hc1]; simp
        · rw [h3, hs_cons, hc1]; simp
        · rw [h4, hso_cons, hc1]; simp
      · have hw := (cv 120 (by omega)).mp w
        subst hw
        rw [cb4]
        refine ih (j + 1) g h true o (by omega) ?_ ?_ ?_ ?_
        · rw [h1, hs_cons, hc1]; simp
        · rw [h2, hs_cons, hc1]; simp
        · rw [h3, hs_cons, hc1]; simp
        · rw [h4, hso_cons, hc1]; simp
      · have n1 : ¬ c = 103 := fun z => w1 ((cv 103 (by omega)).mpr z)
        have n2 : ¬ c = 104 := fun z => w2 ((cv 104 (by omega)).mpr z)
        have n3 : ¬ c = 120 := fun z => w3 ((cv 120 (by omega)).mpr z)
        rw [cb8]
        refine ih (j + 1) g h z true (by omega) ?_ ?_ ?_ ?_
        · rw [h1, hs_cons, hc1]; simp [beq_eq_false_iff_ne.mpr n1]
        · rw [h2, hs_cons, hc1]; simp [beq_eq_false_iff_ne.mpr n2]
        · rw [h3, hs_cons, hc1]; simp [beq_eq_false_iff_ne.mpr n3]
        · rw [h4, hso_cons, hc1]; simp [beq_eq_false_iff_ne.mpr n1, beq_eq_false_iff_ne.mpr n2, beq_eq_false_iff_ne.mpr n3]
  refine e_EN_classSet (b_EN_classSet_0 hL hx ?_)
  rw [hr.1]
  exact loop (A 0).length 0 false false false false (by omega) (by simp) (by simp) (by simp) (by simp)
theorem cb_3 : ∀ g h x o, cb g h x o &&& 3 = nI ((if g then 1 else 0) + (if h then 2 else 0)) := by decide
theorem cb_8 : ∀ g h x o, cb g h x o &&& 8 = if o then 8 else 0 := by decide
theorem cb_4 : ∀ g h x o, cb g h x o &&& 4 = if x then 4 else 0 := by decide
set_option maxRecDepth 20000 in
theorem c_EN_structuralClasses (hL : xL P) (hx : xS0[x]? = some (5, 0)) (hE : xEn I J P x (fun t => pkr (A t)) nt nv ab) (hA : ∀ v ∈ A 0, vk 0 v) : xMet l V y_EN_structuralClasses 3 0 0 [xq (some x)] xS0 I J P (xPi (fun r I' J' P' => I = I' ∧ J = J' ∧ P = P' ∧ r = nI (stru (A 0)))) := by
  refine e_EN_structuralClasses (b_EN_structuralClasses_0 hL hx ⟨_, c_EN_classSet hL hx hE hA, ?_⟩)
  rintro w I1 _ _ ⟨rfl, rfl, rfl, rfl⟩
  exact ⟨rfl, rfl, rfl, cb_3 _ _ _ _⟩
set_option maxRecDepth 20000 in
theorem c_EN_fitsSchema (hL : xL P) (hx : xS0[x]? = some (5, 0)) (hE : xEn I J P x (fun t => pkr (A t)) nt nv ab) (hA : ∀ v ∈ A 0, vk 0 v) : xMet l V y_EN_fitsSchema 3 0 0 [xq (some x)] xS0 I J P (xPi (fun r I' J' P' => I = I' ∧ J = J' ∧ P = P' ∧ r = if fitb A = true then 1 else 0)) := by
  have row : ∀ t, t < 5 → P (x + 1) t = some (x + 2 + 3 * t) ∧ xS0[x + 2 + 3 * t]? = some (6, 0) ∧ I (x + 2 + 3 * t) 2 = nI (A t).length ∧ (A t).length ≤ 11 := by
    intro t ht
    have hr := en_row hL hx ht
    have h := hE.1 t ht
    have hc := vr_cap hr.2
    have h2 := h.2.1
    rw [pkr_len] at h2
    exact ⟨hr.1, hr.2, h.1.trans (by rw [pkr_len]), by omega⟩
  have r1 := row 1 (by decide)
  have r3 := row 3 (by decide)
  have r4 := row 4 (by decide)
  refine e_EN_fitsSchema (b_EN_fitsSchema_0 hL hx ⟨_, c_EN_classSet hL hx hE hA, ?_⟩)
  rintro w I1 _ _ ⟨rfl, rfl, rfl, rfl⟩
  rw [show cset (A 0) &&& 3 = nI (stru (A 0)) from cb_3 _ _ _ _]
  unfold fitb
  have h1b := r1.2.2.2
  have h3b := r3.2.2.2
  have h4b := r4.2.2.2
  have h1e := r1.2.2.1
  have h3e := r3.2.2.1
  have h4e := r4.2.2.1
  generalize (A 1).length = n1 at *
  generalize (A 3).length = n3 at *
  generalize (A 4).length = n4 at *
  unfold cset stru
  generalize hs (A 0) [103] = g at *
  generalize hs (A 0) [104] = h at *
  generalize hs (A 0) [120] = z at *
  generalize hso (A 0) = o at *
  have end84 : ∀ (c s u : Int32), 0 < n1 → G_EN_fitsSchema l V (fun r I' J' P' => I = I' ∧ J = J' ∧ P = P' ∧ r = if fit6 true false z false n1 n3 n4 = true then 1 else 0) 84 [(0, xq (some x)), (1, xi c), (2, xi s), (3, xi u)] [xi (if z then 1 else 0)] I J P := by
    intro c s u hn
    refine b_EN_fitsSchema_84 hL hx ?_
    cases z with
    | true => exact ⟨fun _ => ⟨rfl, rfl, rfl, by simp [fit6, hn]⟩, fun z => absurd z (by decide)⟩
    | false =>
      refine ⟨fun z => absurd rfl z, fun _ => ⟨_, r3.1, r3.2.1, (pk_eq n3 0 (fun z3 => ⟨_, r4.1, r4.2.1, (pk_eq n4 0 (fun z4 => ⟨rfl, rfl, rfl, by simp [fit6, hn, z3, z4]⟩) (fun z4 => ⟨rfl, rfl, rfl, by simp [fit6, z4]⟩) h4e rfl (by omega)).symm⟩) (fun z3 => ⟨rfl, rfl, rfl, by simp [fit6, z3]⟩) h3e rfl (by omega)).symm⟩⟩
  have mid : ∀ s : Int32, (g = true ∧ h = false ∧ s = 1) ∨ (g = false ∧ h = true ∧ s = 2) → G_EN_fitsSchema l V (fun r I' J' P' => I = I' ∧ J = J' ∧ P = P' ∧ r = if fit6 g h z o n1 n3 n4 = true then 1 else 0) 24 [(0, xq (some x)), (1, xi (cb g h z o)), (2, xi s)] [xi 1] I J P := by
    intro s hst
    refine b_EN_fitsSchema_24 hL hx ⟨fun z => absurd z (by decide), fun _ => ?_⟩
    rw [cb_8, cb_4]
    cases o with
    | true => exact ⟨fun _ => ⟨rfl, rfl, rfl, by simp [fit6]⟩, fun z => absurd z (by decide)⟩
    | false =>
      refine ⟨fun z => absurd rfl z, fun _ => ⟨_, r1.1, r1.2.1, (pk_eq n1 0 (fun z1 => ⟨rfl, rfl, rfl, by simp [fit6, z1]⟩) (fun z1 => ?_) h1e rfl (by omega)).symm⟩⟩
      rcases hst with ⟨rfl, rfl, rfl⟩ | ⟨rfl, rfl, rfl⟩
      · have h := end84 (cb true false z false) 1 1 (by omega)
        refine ⟨fun _ => ?_, fun w => absurd w (by decide)⟩
        cases z with
        | true => exact ⟨fun w => absurd w (by decide), fun _ => h⟩
        | false => exact ⟨fun _ => h, fun w => absurd rfl w⟩
      · refine ⟨fun w => absurd rfl w, fun _ => ⟨_, r3.1, r3.2.1, ?_⟩⟩
        exact pk_le n3 0 (fun z3 => ⟨rfl, rfl, rfl, by simp [fit6, show n3 = 0 by omega]⟩) (fun z3 => ⟨rfl, rfl, rfl, by simp [fit6, z3, show 0 < n1 by omega]⟩) h3e rfl (by omega)
  have bad : ∀ s : Int32, g = h → G_EN_fitsSchema l V (fun r I' J' P' => I = I' ∧ J = J' ∧ P = P' ∧ r = if fit6 g h z o n1 n3 n4 = true then 1 else 0) 24 [(0, xq (some x)), (1, xi (cb g h z o)), (2, xi s)] [xi 0] I J P := by
    intro s hgh
    refine b_EN_fitsSchema_24 hL hx ⟨fun _ => ⟨rfl, rfl, rfl, by simp [fit6, hgh]⟩, fun z => absurd rfl z⟩
  cases g with
  | true => cases h with
    | true => exact ⟨fun w => absurd w (by decide), fun _ => ⟨fun _ => bad _ rfl, fun w => absurd w (by decide)⟩⟩
    | false => exact ⟨fun _ => mid _ (Or.inl ⟨rfl, rfl, rfl⟩), fun w => absurd rfl w⟩
  | false => cases h with
    | true => exact ⟨fun w => absurd w (by decide), fun _ => ⟨fun w => absurd rfl w, fun _ => mid _ (Or.inr ⟨rfl, rfl, rfl⟩)⟩⟩
    | false => exact ⟨fun w => absurd w (by decide), fun _ => ⟨fun _ => bad _ rfl, fun w => absurd w (by decide)⟩⟩
/-- is b among the first n of x, its parent, its parent's parent -/
def aob (P : xPt) (b : Option Nat) : Nat → Option Nat → Bool
  | 0, _ => false
  | _ + 1, none => false
  | n + 1, some x => if some x = b then true else aob P b n (P x 1)
set_option maxRecDepth 20000 in
theorem c_EN_isAtOrBelow {b : Option Nat} {K : Nat → Prop} (hL : xL P) (hK : ∀ y, K y → xS0[y]? = some (5, 0) ∧ ∀ z, P y 1 = some z → K z) (hx : K x) : xMet l V y_EN_isAtOrBelow 1 0 0 [xq (some x), xq b] xS0 I J P (xPi (fun r I' J' P' => I = I' ∧ J = J' ∧ P = P' ∧ r = if aob P b 3 (some x) = true then 1 else 0)) := by
  have hx5 := (hK x hx).1
  have loop : ∀ (k j : Nat) (y : Option Nat), j + k = 3 → (∀ z, y = some z → K z) → (aob P b 3 (some x) = aob P b k y) → G_EN_isAtOrBelow l V (fun r I' J' P' => I = I' ∧ J = J' ∧ P = P' ∧ r = if aob P b 3 (some x) = true then 1 else 0) 4 [(0, xq (some x)), (1, xq b), (2, xq y), (3, xi (nI j))] [] I J P := by
    intro k
    induction k with
    | zero =>
      intro j y hj hy h
      refine b_EN_isAtOrBelow_4 hL hx5 (pk_le 3 j (fun _ => ⟨rfl, rfl, rfl, by rw [h]; rfl⟩) (fun z => by omega))
    | succ k ih =>
      intro j y hj hy h
      refine b_EN_isAtOrBelow_4 hL hx5 (pk_le 3 j (fun z => by omega) (fun _ => ?_))
      cases y with
      | none => exact ⟨fun _ => ⟨rfl, rfl, rfl, by rw [h]; rfl⟩, fun z => absurd rfl z⟩
      | some y =>
        have hKy := hK y (hy y rfl)
        rw [nI_1]
        refine ⟨fun z => (by cases z), fun _ => ⟨fun z => ⟨y, rfl, hKy.1, ih (j + 1) (P y 1) (by omega) (fun w hw => hKy.2 w hw) (by rw [h, aob, if_neg z])⟩, fun z => ⟨rfl, rfl, rfl, by rw [h, aob, if_pos z]; rfl⟩⟩⟩
  exact e_EN_isAtOrBelow (b_EN_isAtOrBelow_0 hL hx5 (loop 3 0 (some x) rfl (fun z hz => by cases hz; exact hx) rfl))
end XEN3

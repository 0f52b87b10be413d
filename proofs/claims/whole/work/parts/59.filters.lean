/-! filters: numbers, leaves, the pass backwards -/
def nmv (L : List Nat) : Int32 := L.foldl (fun v c => if c = 45 then v else 10 * v + nI c - 48) 0
def nms (L : List Nat) : Int32 := if L.any (fun c => c == 45) = true then -1 else 1
/-- the number that a value of the syntax of i writes -/
def nm (L : List Nat) : Int32 := nms L * nmv L
theorem nmv_app (L : List Nat) (c : Nat) : nmv (L ++ [c]) = if c = 45 then nmv L else 10 * nmv L + nI c - 48 := by simp [nmv]
theorem nms_app (L : List Nat) (c : Nat) : nms (L ++ [c]) = if c = 45 then -1 else nms L := by
  unfold nms
  by_cases h : c = 45
  · simp [h]
  · simp [h]
/-- the byte at place i of six -/
def pb (L : List Nat) (i : Nat) : Nat := pl L / 2 ^ (8 * (5 - i)) % 256
theorem pb_hi {L : List Nat} (hl : L.length ≤ 6) (hb : by8 L) {i : Nat} (h : 6 - L.length ≤ i) (h6 : i < 6) : L[i - (6 - L.length)]? = some (pb L i) := by
  have hj : i - (6 - L.length) < L.length := by omega
  have h1 := pl_digit hl hb (List.getElem?_eq_getElem hj)
  rw [List.getElem?_eq_getElem hj, ← h1, pb, show L.length - 1 - (i - (6 - L.length)) = 5 - i by omega]
theorem pb_lo {L : List Nat} (hl : L.length ≤ 6) (hb : by8 L) {i : Nat} (h : i < 6 - L.length) : pb L i = 0 := by
  have h1 := pv_lt _ L rfl hb
  have h2 : 2 ^ (8 * (5 - i)) = 256 ^ (5 - i) := by rw [Nat.pow_mul]
  have h3 : L.length * 2 ^ 48 = 256 ^ (5 - i) * (L.length * 256 ^ i * 256) := by
    have h4 : (2 : Nat) ^ 48 = 256 ^ (5 - i) * (256 ^ i * 256) := by
      rw [← Nat.pow_succ, ← Nat.pow_add, show 5 - i + i.succ = 6 by omega]
    rw [h4, Nat.mul_left_comm, Nat.mul_assoc]
  have h5 : pv L < 256 ^ (5 - i) := Nat.lt_of_lt_of_le h1 (Nat.pow_le_pow_right (by decide) (by omega))
  unfold pb pl
  rw [h2, h3, Nat.mul_add_div (Nat.pow_pos (by decide)), Nat.div_eq_of_lt h5, Nat.add_zero, Nat.mul_mod_left]
abbrev Fi : Type := Nat × Nat × Nat × Nat
def hld (k : Nat) : Bool := decide (k = 160) || (decide (k = 161) || decide (k = 162))
/-- a leaf's type and its value -/
def lty (m : Nat → Nat) (x : Fi) : Option Nat := match tx m x with
  | q :: _ => tyx m q
  | [] => none
def lpl (m : Nat → Nat) (x : Fi) : Option (List Nat) := match tx m x with
  | [_, C] => (lty m x).bind fun t => (val m t C).map (fun v => v.2)
  | _ => none
def ordv (k : Nat) (p : List Nat) (R : List Vl) : Nat := if R.any (fun v => if k = 165 then !decide (nm v.2 < nm p) else !decide (nm p < nm v.2)) = true then 2 else 0
/-- a leaf's truth -/
def lv (m : Nat → Nat) (A : Nat → List Vl) (x : Fi) : Nat := match lty m x with
  | none => 1
  | some t => if x.1 = 135 then (if 0 < (A t).length then 2 else 0) else match lpl m x with
    | none => 1
    | some p => if x.1 = 163 then (if hs (A t) p = true then 2 else 0) else if t = 3 then ordv x.1 p (A 3) else 1
theorem ordv_2 {k : Nat} {p : List Nat} {R : List Vl} : ordv k p R ≤ 2 := by
  unfold ordv
  generalize R.any _ = b
  cases b <;> decide
theorem lv_2 {m : Nat → Nat} {A : Nat → List Vl} {x : Fi} : lv m A x ≤ 2 := by
  unfold lv
  split
  · omega
  · split
    · split <;> omega
    · split
      · omega
      · split
        · split <;> omega
        · split
          · exact ordv_2
          · omega
def ini (m : Nat → Nat) (A : Nat → List Vl) (x : Fi) : Nat := if x.1 = 160 then 2 else if x.1 = 161 ∨ x.1 = 162 then 0 else lv m A x
theorem ini_2 {m : Nat → Nat} {A : Nat → List Vl} {x : Fi} : ini m A x ≤ 2 := by
  unfold ini
  split
  · omega
  · split
    · omega
    · exact lv_2
def jo (k a b : Nat) : Nat := if k = 162 then 2 - b else if k = 160 then min a b else max a b
theorem jo_2 {k a b : Nat} (ha : a ≤ 2) (hb : b ≤ 2) : jo k a b ≤ 2 := by
  unfold jo
  split
  · omega
  · split <;> omega
def kd (N : List Fi) (j : Nat) : Nat := match N[j]? with
  | some x => x.1
  | none => 0
/-- the filter at f is joined to the one around it -/
def stp (N : List Fi) (τ : Nat → Nat) (f : Nat) : Nat → Nat := match N[f]? with
  | some x => if x.2.1 = 0 then τ else fun j => if j = x.2.1 - 1 then jo (kd N j) (τ j) (τ f) else τ j
  | none => τ
def bw (N : List Fi) : Nat → (Nat → Nat) → Nat → Nat
  | 0, τ => τ
  | n + 1, τ => bw N n (stp N τ n)
def nod (g : Nat) (vs : List Nat) : Nat := if g = 160 then vs.foldl min 2 else if g = 161 then vs.foldl max 0 else 2 - vs.foldl max 0
/-- the truths of the filters in a row -/
def cvs (m : Nat → Nat) (A : Nat → List Vl) : Nat → Nat → Nat → List Nat
  | 0, _, _ => []
  | k + 1, p, e => if p = e then [] else match tl m p e with
    | none => []
    | some x => (if 160 ≤ x.1 ∧ x.1 ≤ 162 then nod x.1 (cvs m A k x.2.1 x.2.2) else lv m A (x.1, 0, x.2.1, x.2.2)) :: cvs m A k x.2.2 e
theorem lv_par {m : Nat → Nat} {A : Nat → List Vl} {t a b f u : Nat} : lv m A (t, a, f, u) = lv m A (t, b, f, u) := rfl
theorem foldr_min (vs : List Nat) (a : Nat) : vs.foldr (fun v a => min a v) a = vs.foldl min a := by
  induction vs generalizing a with
  | nil => rfl
  | cons v vs ih =>
    rw [List.foldr_cons, ih, List.foldl_cons]
    have key : ∀ (l : List Nat) (a b : Nat), min (l.foldl min a) b = l.foldl min (min a b) := by
      intro l
      induction l with
      | nil => intro a b; rfl
      | cons c l ih => intro a b; rw [List.foldl_cons, List.foldl_cons, ih, show min (min a c) b = min (min a b) c by omega]
    exact key vs a v
theorem foldr_max (vs : List Nat) (a : Nat) : vs.foldr (fun v a => max a v) a = vs.foldl max a := by
  induction vs generalizing a with
  | nil => rfl
  | cons v vs ih =>
    rw [List.foldr_cons, ih, List.foldl_cons]
    have key : ∀ (l : List Nat) (a b : Nat), max (l.foldl max a) b = l.foldl max (max a b) := by
      intro l
      induction l with
      | nil => intro a b; rfl
      | cons c l ih => intro a b; rw [List.foldl_cons, List.foldl_cons, ih, show max (max a c) b = max (max a b) c by omega]
    exact key vs a v
theorem nod_eq {g : Nat} {vs : List Nat} (hg : 160 ≤ g ∧ g ≤ 162) (h1 : g = 162 → vs.length = 1) : vs.foldr (fun v a => jo g a v) (if g = 160 then 2 else 0) = nod g vs := by
  by_cases h : g = 162
  · obtain ⟨v, rfl⟩ := List.length_eq_one_iff.mp (h1 h)
    subst h
    simp [jo, nod]
  by_cases h0 : g = 160
  · subst h0
    rw [if_pos rfl, show (fun v a => jo 160 a v) = (fun v a => min a v) from by funext v a; simp [jo], foldr_min]
    rfl
  · have h6 : g = 161 := by omega
    subst h6
    rw [if_neg (by decide), show (fun v a => jo 161 a v) = (fun v a => max a v) from by funext v a; simp [jo], foldr_max]
    rfl
theorem cvs_len {m : Nat → Nat} {A : Nat → List Vl} : ∀ (k p e top par n : Nat) (R : List Fi × Nat), sq m k p e top par n = some R → (cvs m A k p e).length = R.2 := by
  intro k
  induction k with
  | zero => intro p e top par n R h; cases h
  | succ k ih =>
    intro p e top par n R h
    rw [sq] at h
    rw [cvs]
    by_cases hp : p = e
    · rw [if_pos hp] at h ⊢
      cases h; rfl
    rw [if_neg hp] at h ⊢
    obtain ⟨x, hx, h⟩ := Option.bind_eq_some_iff.mp h
    rw [hx]
    by_cases hc : top = 6 ∨ n = 12
    · rw [if_pos hc] at h; cases h
    rw [if_neg hc] at h
    by_cases hh : 160 ≤ x.1 ∧ x.1 ≤ 162
    · rw [if_pos hh] at h
      obtain ⟨L, hL, h⟩ := Option.bind_eq_some_iff.mp h
      by_cases h2 : x.1 = 162 ∧ L.2 ≠ 1
      · rw [if_pos h2] at h; cases h
      rw [if_neg h2] at h
      obtain ⟨R', hR, rfl⟩ := Option.map_eq_some_iff.mp h
      simp only [List.length_cons]
      rw [ih _ _ _ _ _ _ hR]
    · rw [if_neg hh] at h
      by_cases hl : lfb m x.1 x.2.1 x.2.2 = true
      · rw [if_pos hl] at h
        obtain ⟨R', hR, rfl⟩ := Option.map_eq_some_iff.mp h
        simp only [List.length_cons]
        rw [ih _ _ _ _ _ _ hR]
      · rw [if_neg hl] at h; cases h
theorem bw_sq {m : Nat → Nat} {A : Nat → List Vl} {N : List Fi} : ∀ (k p e top par n : Nat) (R : List Fi × Nat) (τ : Nat → Nat), sq m k p e top par n = some R → par ≤ n → (∀ i x, R.1[i]? = some x → N[n + i]? = some x) → (∀ i x, R.1[i]? = some x → τ (n + i) = ini m A x) → ∃ τ', bw N (n + R.1.length) τ = bw N n τ' ∧ ∀ j, j < n → τ' j = if par = j + 1 then (cvs m A k p e).foldr (fun v a => jo (kd N j) a v) (τ j) else τ j := by
  intro k
  induction k with
  | zero => intro p e top par n R τ h; cases h
  | succ k ih =>
    intro p e top par n R τ h hpn hN hτ
    rw [sq] at h
    rw [cvs]
    by_cases hp : p = e
    · rw [if_pos hp] at h ⊢
      cases h
      exact ⟨τ, rfl, fun j hj => by simp⟩
    rw [if_neg hp] at h ⊢
    obtain ⟨x, hx, h⟩ := Option.bind_eq_some_iff.mp h
    rw [hx]
    by_cases hc : top = 6 ∨ n = 12
    · rw [if_pos hc] at h; cases h
    rw [if_neg hc] at h
    -- one filter and the rest
    have one : ∀ (τ2 : Nat → Nat) (vs : List Nat) (v : Nat), N[n]? = some (x.1, par, x.2.1, x.2.2) → τ2 n = v → (∀ j, j < n → τ2 j = if par = j + 1 then vs.foldr (fun v a => jo (kd N j) a v) (τ j) else τ j) → ∃ τ', bw N (n + 1) τ2 = bw N n τ' ∧ ∀ j, j < n → τ' j = if par = j + 1 then (v :: vs).foldr (fun v a => jo (kd N j) a v) (τ j) else τ j := by
      intro τ2 vs v hn hv h2
      refine ⟨stp N τ2 n, by rw [bw], fun j hj => ?_⟩
      unfold stp
      rw [hn]
      by_cases h0 : par = 0
      · simp only [if_pos h0]
        rw [h2 j hj, if_neg (by omega), if_neg (by omega)]
      · simp only [if_neg h0]
        by_cases hj1 : par = j + 1
        · rw [if_pos (by omega), if_pos hj1, List.foldr_cons, h2 j hj, if_pos hj1, hv]
        · rw [if_neg (by omega), if_neg hj1, h2 j hj, if_neg hj1]
    by_cases hh : 160 ≤ x.1 ∧ x.1 ≤ 162
    · rw [if_pos hh] at h
      obtain ⟨L, hL, h⟩ := Option.bind_eq_some_iff.mp h
      by_cases h2 : x.1 = 162 ∧ L.2 ≠ 1
      · rw [if_pos h2] at h; cases h
      rw [if_neg h2] at h
      obtain ⟨R', hR, rfl⟩ := Option.map_eq_some_iff.mp h
      have hN0 := hN 0 (x.1, par, x.2.1, x.2.2) rfl
      have ht0 := hτ 0 (x.1, par, x.2.1, x.2.2) rfl
      have gl : ∀ i y, L.1[i]? = some y → ((x.1, par, x.2.1, x.2.2) :: (L.1 ++ R'.1))[i + 1]? = some y := fun i y hy => by
        rw [List.getElem?_cons_succ, List.getElem?_append_left (List.getElem?_eq_some_iff.mp hy).1]; exact hy
      have gr : ∀ i y, R'.1[i]? = some y → ((x.1, par, x.2.1, x.2.2) :: (L.1 ++ R'.1))[L.1.length + i + 1]? = some y := fun i y hy => by
        rw [List.getElem?_cons_succ, List.getElem?_append_right (by omega), Nat.add_sub_cancel_left]; exact hy
      obtain ⟨τ1, hb1, h1⟩ := ih _ _ _ _ _ R' τ hR (by omega) (fun i y hy => by have := hN _ y (gr i y hy); rw [show n + 1 + L.1.length + i = n + (L.1.length + i + 1) by omega]; exact this) (fun i y hy => by have := hτ _ y (gr i y hy); rw [show n + 1 + L.1.length + i = n + (L.1.length + i + 1) by omega]; exact this)
      obtain ⟨τ2, hb2, h2'⟩ := ih _ _ _ _ _ L τ1 hL (by omega) (fun i y hy => by have := hN _ y (gl i y hy); rw [show n + 1 + i = n + (i + 1) by omega]; exact this) (fun i y hy => by
        have hil := (List.getElem?_eq_some_iff.mp hy).1
        have := hτ _ y (gl i y hy)
        rw [h1 (n + 1 + i) (by omega), if_neg (by omega), show n + 1 + i = n + (i + 1) by omega]; exact this)
      have hkd : kd N n = x.1 := by rw [Nat.add_zero] at hN0; unfold kd; rw [hN0]
      have hv : τ2 n = nod x.1 (cvs m A k x.2.1 x.2.2) := by
        rw [h2' n (by omega), if_pos rfl, hkd, h1 n (by omega), if_neg (by omega)]
        rw [Nat.add_zero] at ht0
        rw [ht0, ← nod_eq hh (fun h6 => by
          rw [cvs_len _ _ _ _ _ _ L hL]
          exact Classical.byContradiction fun z => h2 ⟨h6, z⟩)]
        congr 1
        unfold ini
        by_cases h6 : x.1 = 160
        · simp [h6]
        · simp only [if_neg h6]
          rw [if_pos (by omega)]
      obtain ⟨τ3, hb3, h3⟩ := one τ2 (cvs m A k x.2.2 e) _ hN0 hv (fun j hj => by rw [h2' j (by omega), if_neg (by omega), h1 j (by omega)])
      refine ⟨τ3, ?_, fun j hj => ?_⟩
      · rw [show n + ((x.1, par, x.2.1, x.2.2) :: (L.1 ++ R'.1)).length = n + 1 + L.1.length + R'.1.length by simp; omega, hb1, hb2, hb3]
      · rw [h3 j hj]; simp only [if_pos hh]
    · rw [if_neg hh] at h
      by_cases hl : lfb m x.1 x.2.1 x.2.2 = true
      · rw [if_pos hl] at h
        obtain ⟨R', hR, rfl⟩ := Option.map_eq_some_iff.mp h
        have hN0 := hN 0 (x.1, par, x.2.1, x.2.2) rfl
        have ht0 := hτ 0 (x.1, par, x.2.1, x.2.2) rfl
        obtain ⟨τ1, hb1, h1⟩ := ih _ _ _ _ _ R' τ hR (by omega) (fun i y hy => by have := hN (i + 1) y hy; rw [show n + 1 + i = n + (i + 1) by omega]; exact this) (fun i y hy => by have := hτ (i + 1) y hy; rw [show n + 1 + i = n + (i + 1) by omega]; exact this)
        have hv : τ1 n = lv m A (x.1, 0, x.2.1, x.2.2) := by
          rw [h1 n (by omega), if_neg (by omega)]
          rw [Nat.add_zero] at ht0
          rw [ht0]
          unfold ini
          simp only
          rw [if_neg (by omega), if_neg (by omega)]
          exact lv_par
        obtain ⟨τ3, hb3, h3⟩ := one τ1 (cvs m A k x.2.2 e) _ hN0 hv (fun j hj => by rw [h1 j (by omega)])
        refine ⟨τ3, ?_, fun j hj => ?_⟩
        · rw [show n + ((x.1, par, x.2.1, x.2.2) :: R'.1).length = n + 1 + R'.1.length by simp; omega, hb1, hb3]
        · rw [h3 j hj]; simp only [if_neg hh]
      · rw [if_neg hl] at h; cases h
theorem sq_par {m : Nat → Nat} : ∀ (k p e top par n : Nat) (R : List Fi × Nat), sq m k p e top par n = some R → par ≤ n → ∀ i x, R.1[i]? = some x → x.2.1 ≤ n + i := by
  intro k
  induction k with
  | zero => intro p e top par n R h; cases h
  | succ k ih =>
    intro p e top par n R h hpn i y hy
    rw [sq] at h
    by_cases hp : p = e
    · rw [if_pos hp] at h
      cases h
      simp at hy
    rw [if_neg hp] at h
    obtain ⟨x, hx, h⟩ := Option.bind_eq_some_iff.mp h
    by_cases hc : top = 6 ∨ n = 12
    · rw [if_pos hc] at h; cases h
    rw [if_neg hc] at h
    by_cases hh : 160 ≤ x.1 ∧ x.1 ≤ 162
    · rw [if_pos hh] at h
      obtain ⟨L, hL, h⟩ := Option.bind_eq_some_iff.mp h
      by_cases h2 : x.1 = 162 ∧ L.2 ≠ 1
      · rw [if_pos h2] at h; cases h
      rw [if_neg h2] at h
      obtain ⟨R', hR, rfl⟩ := Option.map_eq_some_iff.mp h
      cases i with
      | zero => simp at hy; subst hy; exact hpn
      | succ i =>
        simp only [List.getElem?_cons_succ] at hy
        by_cases hi : i < L.1.length
        · rw [List.getElem?_append_left hi] at hy
          have := ih _ _ _ _ _ L hL (by omega) i y hy
          omega
        · rw [List.getElem?_append_right (by omega)] at hy
          have := ih _ _ _ _ _ R' hR (by omega) _ y hy
          omega
    · rw [if_neg hh] at h
      by_cases hl : lfb m x.1 x.2.1 x.2.2 = true
      · rw [if_pos hl] at h
        obtain ⟨R', hR, rfl⟩ := Option.map_eq_some_iff.mp h
        cases i with
        | zero => simp at hy; subst hy; exact hpn
        | succ i =>
          simp only [List.getElem?_cons_succ] at hy
          have := ih _ _ _ _ _ R' hR (by omega) _ y hy
          omega
      · rw [if_neg hl] at h; cases h
theorem sq_zero {m : Nat → Nat} {k p e top par n : Nat} {R : List Fi × Nat} (h : sq m k p e top par n = some R) (h0 : R.2 = 0) : R.1 = [] := by
  cases k with
  | zero => cases h
  | succ k =>
    rw [sq] at h
    by_cases hp : p = e
    · rw [if_pos hp] at h
      cases h; rfl
    rw [if_neg hp] at h
    obtain ⟨x, hx, h⟩ := Option.bind_eq_some_iff.mp h
    by_cases hc : top = 6 ∨ n = 12
    · rw [if_pos hc] at h; cases h
    rw [if_neg hc] at h
    by_cases hh : 160 ≤ x.1 ∧ x.1 ≤ 162
    · rw [if_pos hh] at h
      obtain ⟨L, hL, h⟩ := Option.bind_eq_some_iff.mp h
      by_cases h2 : x.1 = 162 ∧ L.2 ≠ 1
      · rw [if_pos h2] at h; cases h
      rw [if_neg h2] at h
      obtain ⟨R', hR, rfl⟩ := Option.map_eq_some_iff.mp h
      cases h0
    · rw [if_neg hh] at h
      by_cases hl : lfb m x.1 x.2.1 x.2.2 = true
      · rw [if_pos hl] at h
        obtain ⟨R', hR, rfl⟩ := Option.map_eq_some_iff.mp h
        cases h0
      · rw [if_neg hl] at h; cases h
def tau (m : Nat → Nat) (A : Nat → List Vl) (N : List Fi) (i : Nat) : Nat := match N[i]? with
  | some x => ini m A x
  | none => 0
theorem tau_2 {m : Nat → Nat} {A : Nat → List Vl} {N : List Fi} {i : Nat} : tau m A N i ≤ 2 := by
  unfold tau
  split
  · exact ini_2
  · omega
/-- the truth of a whole filter -/
theorem bw_root {m : Nat → Nat} {A : Nat → List Vl} {k p e : Nat} {R : List Fi × Nat} (h : sq m k p e 0 0 0 = some R) (h1 : R.2 = 1) : cvs m A k p e = [bw R.1 R.1.length (tau m A R.1) 0] := by
  cases k with
  | zero => cases h
  | succ k =>
    rw [sq] at h
    rw [cvs]
    by_cases hp : p = e
    · rw [if_pos hp] at h
      cases h; cases h1
    rw [if_neg hp] at h ⊢
    obtain ⟨x, hx, h⟩ := Option.bind_eq_some_iff.mp h
    rw [hx, ]
    rw [if_neg (by omega)] at h
    have last : ∀ (u : Nat) (R' : List Fi × Nat) (n : Nat), sq m k u e 0 0 n = some R' → R'.2 = 0 → cvs m A k u e = [] := fun u R' n h3 h4 => List.eq_nil_of_length_eq_zero ((cvs_len _ _ _ _ _ _ _ h3).trans h4)
    by_cases hh : 160 ≤ x.1 ∧ x.1 ≤ 162
    · rw [if_pos hh] at h
      obtain ⟨L, hL, h⟩ := Option.bind_eq_some_iff.mp h
      by_cases h2 : x.1 = 162 ∧ L.2 ≠ 1
      · rw [if_pos h2] at h; cases h
      rw [if_neg h2] at h
      obtain ⟨R', hR, rfl⟩ := Option.map_eq_some_iff.mp h
      have hr0 : R'.2 = 0 := by simp at h1; omega
      simp only [if_pos hh]
      rw [last _ R' _ hR hr0, sq_zero hR hr0, List.append_nil]
      obtain ⟨τ', hb, ht⟩ := bw_sq (A := A) (N := (x.1, 0, x.2.1, x.2.2) :: L.1) _ _ _ _ _ _ L (tau m A ((x.1, 0, x.2.1, x.2.2) :: L.1)) hL (by omega) (fun i y hy => by rw [show 0 + 1 + i = i + 1 by omega, List.getElem?_cons_succ]; exact hy) (fun i y hy => by unfold tau; rw [show 0 + 1 + i = i + 1 by omega, List.getElem?_cons_succ, hy])
      rw [show ((x.1, 0, x.2.1, x.2.2) :: L.1).length = 0 + 1 + L.1.length by simp; omega, hb, Nat.zero_add, bw, bw]
      have h0 : stp ((x.1, 0, x.2.1, x.2.2) :: L.1) τ' 0 = τ' := by simp [stp]
      rw [h0, ht 0 (by omega), if_pos rfl]
      have hkd : kd ((x.1, 0, x.2.1, x.2.2) :: L.1) 0 = x.1 := rfl
      rw [hkd, ← nod_eq hh (fun h6 => by
          rw [cvs_len _ _ _ _ _ _ L hL]
          exact Classical.byContradiction fun z => h2 ⟨h6, z⟩)]
      congr 2
      show _ = ini m A (x.1, 0, x.2.1, x.2.2)
      unfold ini
      by_cases h6 : x.1 = 160
      · simp [h6]
      · simp only [if_neg h6]
        rw [if_pos (by omega)]
    · rw [if_neg hh] at h
      by_cases hl : lfb m x.1 x.2.1 x.2.2 = true
      · rw [if_pos hl] at h
        obtain ⟨R', hR, rfl⟩ := Option.map_eq_some_iff.mp h
        have hr0 : R'.2 = 0 := by simp at h1; omega
        simp only [if_neg hh]
        rw [last _ R' _ hR hr0, sq_zero hR hr0]
        rw [show [(x.1, 0, x.2.1, x.2.2)].length = 1 from rfl, bw, bw]
        have h0 : stp [(x.1, 0, x.2.1, x.2.2)] (tau m A [(x.1, 0, x.2.1, x.2.2)]) 0 = tau m A [(x.1, 0, x.2.1, x.2.2)] := by simp [stp]
        rw [h0]
        congr 1
        show _ = ini m A (x.1, 0, x.2.1, x.2.2)
        unfold ini
        simp only
        rw [if_neg (by omega), if_neg (by omega)]
      · rw [if_neg hl] at h; cases h

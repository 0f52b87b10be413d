/-! the class's reading of a name's part -/
def mkd (c : Nat) : Bool := decide (c = 44) || (decide (c = 61) || decide (c = 92))
set_option maxRecDepth 20000 in
theorem c_NM_isMarked {l : Launch} {V : xV} {I : xIt} {J : xJt} {P : xPt} {c : Nat} (hL : xL P) (h : c < 256) : xMet l V y_NM_isMarked 1 0 0 [xi (nI c)] xS0 I J P (xPi (fun r I' J' P' => I = I' ∧ J = J' ∧ P = P' ∧ r = if mkd c = true then 1 else 0)) := by
  refine e_NM_isMarked (b_NM_isMarked_0 hL ?_)
  exact pk_eq c 44 (fun z => ⟨rfl, rfl, rfl, by simp [mkd, z]⟩) (fun z => pk_eq c 61 (fun z2 => ⟨rfl, rfl, rfl, by simp [mkd, z2]⟩) (fun z2 => (pk_eq c 92 (fun z3 => ⟨rfl, rfl, rfl, by simp [mkd, z3]⟩) (fun z3 => ⟨rfl, rfl, rfl, by simp [mkd, z, z2, z3]⟩)).symm))
/-- the bytes of a part's value from k on, without their marks, and where it ends -/
def sc (m : Nat → Nat) (e : Nat) : Nat → Nat → List Nat → Option (List Nat × Nat)
  | 0, _, _ => none
  | n + 1, k, acc => if e ≤ k then some (acc, k) else if m k = 44 then some (acc, k) else if m k = 92 then (if k + 1 = e then none else if mkd (m (k + 1)) = true then sc m e n (k + 2) (acc ++ [m (k + 1)]) else none) else if m k = 61 then none else sc m e n (k + 1) (acc ++ [m k])
theorem sc_len (m : Nat → Nat) (e : Nat) : ∀ (n k : Nat) (acc : List Nat) (x : List Nat × Nat), sc m e n k acc = some x → acc.length ≤ x.1.length := by
  intro n
  induction n with
  | zero => intro k acc x h; cases h
  | succ n ih =>
    intro k acc x h
    rw [sc] at h
    by_cases h1 : e ≤ k
    · rw [if_pos h1] at h; cases h; exact Nat.le_refl _
    rw [if_neg h1] at h
    by_cases h2 : m k = 44
    · rw [if_pos h2] at h; cases h; exact Nat.le_refl _
    rw [if_neg h2] at h
    by_cases h3 : m k = 92
    · rw [if_pos h3] at h
      by_cases h4 : k + 1 = e
      · rw [if_pos h4] at h; cases h
      rw [if_neg h4] at h
      by_cases h5 : mkd (m (k + 1)) = true
      · rw [if_pos h5] at h
        have := ih _ _ x h
        simp at this
        omega
      · rw [if_neg h5] at h; cases h
    rw [if_neg h3] at h
    by_cases h4 : m k = 61
    · rw [if_pos h4] at h; cases h
    rw [if_neg h4] at h
    have := ih _ _ x h
    simp at this
    omega
/-- a part at p: its type, its value as given and plain, and where it ends -/
def np (m : Nat → Nat) (p e : Nat) : Option (Nat × List Nat × List Nat × Nat) := if e - p < 2 ∨ ¬ m (p + 1) = 61 then none else (ty (m p)).bind fun t => if 1 ≤ t ∧ t ≤ 3 then (sc m e 200 (p + 2) []).bind fun x => if x.1.length ≤ 6 then (po t x.1).map (fun q => (t, x.1, q, x.2)) else none else none
def Qp (m : Nat → Nat) (p e a i : Nat) (I : xIt) (J : xJt) (P : xPt) : Int32 → xIt → xJt → xPt → Prop := fun r I' J' P' => P = P' ∧ (∀ b k, ¬ (b = a + 1 ∧ k = i) → I' b k = I b k) ∧ (∀ b k, ¬ (b = a + 2 ∧ k = i) → ¬ (b = a + 3 ∧ k = i) → J' b k = J b k) ∧ match np m p e with
  | some q => r = nI q.2.2.2 ∧ I' (a + 1) i = nI q.1 ∧ J' (a + 2) i = pkd q.2.1 ∧ J' (a + 3) i = pkd q.2.2.1
  | none => r = -1
theorem po_ok {t : Nat} {L q : List Nat} (hl : L.length ≤ 6) (hb : by8 L) (h : po t L = some q) : q.length ≤ 6 ∧ by8 q := by
  have key : ∀ (A p : List Nat) (w : Bool) (r : List Nat), by8 A → by8 p → p.length + (if w then 1 else 0) + A.length ≤ 6 → ptx A p w = some r → r.length ≤ 6 ∧ by8 r := by
    intro A
    induction A with
    | nil =>
      intro p w r hA hp hlen h
      by_cases hpe : p = []
      · simp [ptx, hpe] at h
      · simp [ptx, hpe] at h
        subst h
        exact ⟨by simp at hlen; omega, hp⟩
    | cons c A ih =>
      intro p w r hA hp hlen h
      have hc : c < 256 := hA c (by simp)
      have hA' : by8 A := fun x hx => hA x (by simp [hx])
      rw [ptx] at h
      by_cases h1 : c < 32 ∨ 126 < c
      · rw [if_pos h1] at h; cases h
      rw [if_neg h1] at h
      by_cases h2 : c = 32
      · rw [if_pos h2] at h
        refine ih p _ r hA' hp ?_ h
        simp at hlen ⊢
        split <;> omega
      · rw [if_neg h2] at h
        refine ih _ false r hA' ?_ ?_ h
        · refine by8_app (by8_app hp ?_) (fun x hx => by simp at hx; rw [hx]; exact low_256 hc)
          intro x hx
          cases w
          · simp at hx
          · simp at hx; omega
        · cases w <;> simp at hlen ⊢ <;> omega
  unfold po at h
  by_cases hne : L = []
  · rw [if_pos hne] at h; cases h
  rw [if_neg hne] at h
  match t, h with
  | 0, h =>
    cases L with
    | nil => exact absurd rfl hne
    | cons c u => cases u with
      | nil =>
        have h : (if 97 ≤ low c ∧ low c ≤ 122 then some [low c] else none) = some q := h
        by_cases hc : 97 ≤ low c ∧ low c ≤ 122
        · rw [if_pos hc] at h
          cases h
          exact ⟨by simp, fun x hx => by simp at hx; omega⟩
        · rw [if_neg hc] at h; cases h
      | cons d v => cases h
  | 1, h => exact key L [] false q hb (fun x hx => by cases hx) (by simpa using hl) h
  | 2, h => exact key L [] false q hb (fun x hx => by cases hx) (by simpa using hl) h
  | 3, h =>
    have h : (if isn L = true then some L else none) = some q := h
    by_cases hi : isn L = true
    · rw [if_pos hi] at h; cases h; exact ⟨hl, hb⟩
    · rw [if_neg hi] at h; cases h
  | 4, h => cases h; exact ⟨hl, hb⟩
  | n + 5, h => cases h

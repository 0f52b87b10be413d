/-! a value's bytes in one long -/
def pv (l : List Nat) : Nat := l.foldl (fun a b => a * 256 + b) 0
def pl (l : List Nat) : Nat := l.length * 2 ^ 48 + pv l
def pkd (l : List Nat) : Int64 := lN (pl l)
def by8 (l : List Nat) : Prop := ∀ b ∈ l, b < 256
theorem pv_app (l : List Nat) (b : Nat) : pv (l ++ [b]) = pv l * 256 + b := by simp [pv]
theorem pv_lt : ∀ (n : Nat) (l : List Nat), l.length = n → by8 l → pv l < 256 ^ n := by
  intro n
  induction n with
  | zero => intro l h _; rw [List.length_eq_zero_iff.mp h]; decide
  | succ n ih =>
    intro l h hb
    obtain ⟨l', b, rfl⟩ : ∃ l' b, l = l' ++ [b] := by
      rcases List.eq_nil_or_concat l with rfl | ⟨l', b, rfl⟩
      · cases h
      · exact ⟨l', b, by simp⟩
    have h1 := ih l' (by simp at h; omega) (fun x hx => hb x (by simp [hx]))
    have h2 := hb b (by simp)
    rw [pv_app, Nat.pow_succ]
    omega
theorem pv_48 {l : List Nat} (hl : l.length ≤ 6) (hb : by8 l) : pv l < 2 ^ 48 := Nat.lt_of_lt_of_le (pv_lt _ l rfl hb) (by
  have : 256 ^ l.length ≤ 256 ^ 6 := Nat.pow_le_pow_right (by decide) hl
  exact Nat.le_trans this (by decide))
theorem pl_52 {l : List Nat} (hl : l.length ≤ 6) (hb : by8 l) : pl l < 2 ^ 52 := by
  have := pv_48 hl hb
  have h2 : l.length * 2 ^ 48 ≤ 6 * 2 ^ 48 := Nat.mul_le_mul_right _ hl
  unfold pl
  omega
theorem pl_len {l : List Nat} (hl : l.length ≤ 6) (hb : by8 l) : pl l / 2 ^ 48 = l.length := by
  have := pv_48 hl hb
  unfold pl
  rw [Nat.mul_comm, Nat.mul_add_div (by decide), Nat.div_eq_of_lt this, Nat.add_zero]
theorem pv_digit : ∀ (n : Nat) (l : List Nat), l.length = n → by8 l → ∀ (j b : Nat), l[j]? = some b → pv l / 256 ^ (n - 1 - j) % 256 = b := by
  intro n
  induction n with
  | zero => intro l h _ j b hj; rw [List.length_eq_zero_iff.mp h] at hj; simp at hj
  | succ n ih =>
    intro l h hb j b hj
    obtain ⟨l', c, rfl⟩ : ∃ l' c, l = l' ++ [c] := by
      rcases List.eq_nil_or_concat l with rfl | ⟨l', c, rfl⟩
      · cases h
      · exact ⟨l', c, by simp⟩
    have hl' : l'.length = n := by simp at h; omega
    have h2 := hb c (by simp)
    rw [pv_app]
    by_cases hjl : j < l'.length
    · rw [List.getElem?_append_left hjl] at hj
      have h3 := ih l' hl' (fun x hx => hb x (by simp [hx])) j b hj
      rw [show n + 1 - 1 - j = (n - 1 - j) + 1 by omega, Nat.pow_succ, Nat.mul_comm (256 ^ (n - 1 - j)) 256, ← Nat.div_div_eq_div_mul, show (pv l' * 256 + c) / 256 = pv l' by omega]
      exact h3
    · rw [List.getElem?_append_right (by omega)] at hj
      have h4 : j = l'.length := by
        have := (List.getElem?_eq_some_iff.mp hj).1
        simp at this
        omega
      subst h4
      simp at hj
      subst hj
      rw [show n + 1 - 1 - l'.length = 0 by omega, Nat.pow_zero, Nat.div_one]
      omega
theorem pl_digit {l : List Nat} (hl : l.length ≤ 6) (hb : by8 l) {j b : Nat} (hj : l[j]? = some b) : pl l / 2 ^ (8 * (l.length - 1 - j)) % 256 = b := by
  have hjl := (List.getElem?_eq_some_iff.mp hj).1
  have h1 := pv_digit l.length l rfl hb j b hj
  have h2 : 2 ^ (8 * (l.length - 1 - j)) = 256 ^ (l.length - 1 - j) := by rw [Nat.pow_mul]
  have h3 : l.length * 2 ^ 48 = 256 ^ (l.length - 1 - j) * (l.length * 256 ^ (5 - (l.length - 1 - j)) * 256) := by
    have h4 : (2 : Nat) ^ 48 = 256 ^ (l.length - 1 - j) * (256 ^ (5 - (l.length - 1 - j)) * 256) := by
      rw [← Nat.pow_succ, ← Nat.pow_add, show l.length - 1 - j + (5 - (l.length - 1 - j)).succ = 6 by omega]
    rw [h4, Nat.mul_left_comm, Nat.mul_assoc]
  unfold pl
  rw [h2, h3, Nat.mul_add_div (Nat.pow_pos (by decide)), Nat.mul_comm _ 256, Nat.mul_add_mod]
  exact h1
theorem pl_app {l : List Nat} {b : Nat} (hl : l.length < 6) (hb : by8 l) (h : b < 256) : (l.length + 1) * 2 ^ 48 + (pl l * 256 + b) % 2 ^ 48 = pl (l ++ [b]) := by
  have h1 : pv l < 256 ^ 5 := Nat.lt_of_lt_of_le (pv_lt _ l rfl hb) (Nat.pow_le_pow_right (by decide) (by omega))
  have h2 : (pl l * 256 + b) % 2 ^ 48 = pv l * 256 + b := by
    unfold pl
    rw [show (l.length * 2 ^ 48 + pv l) * 256 + b = 2 ^ 48 * (l.length * 256) + (pv l * 256 + b) by omega, Nat.mul_add_mod, Nat.mod_eq_of_lt]
    have : (256 : Nat) ^ 5 = 1099511627776 := by decide
    have h48 : (2 : Nat) ^ 48 = 281474976710656 := by decide
    omega
  rw [h2]
  unfold pl
  rw [pv_app, List.length_append]
  rfl
theorem pkd_inj {l l' : List Nat} (hl : l.length ≤ 6) (hb : by8 l) (hl' : l'.length ≤ 6) (hb' : by8 l') (h : pkd l = pkd l') : l = l' := by
  have h1 := pl_52 hl hb
  have h2 := pl_52 hl' hb'
  have h3 : pl l = pl l' := by
    have := congrArg (fun x : Int64 => x.toBitVec.toNat) h
    simp only [pkd] at this
    rw [wb_tn (by omega), wb_tn (by omega)] at this
    exact this
  have h4 : l.length = l'.length := by rw [← pl_len hl hb, h3, pl_len hl' hb']
  apply List.ext_getElem?
  intro j
  by_cases hj : j < l.length
  · have e1 : l[j]? = some l[j] := List.getElem?_eq_getElem hj
    have e2 : l'[j]? = some (l'[j]'(by omega)) := List.getElem?_eq_getElem (by omega)
    have d1 := pl_digit hl hb e1
    have d2 := pl_digit hl' hb' e2
    rw [h3, h4, d2] at d1
    rw [e1, e2, d1]
  · rw [List.getElem?_eq_none (by omega), List.getElem?_eq_none (by omega)]
theorem nI_tn (x : Nat) : (nI x).toBitVec.toNat = x % 2 ^ 32 := by
  have h : (nI x).toBitVec = BitVec.ofNat 32 x := rfl
  rw [h, BitVec.toNat_ofNat]
theorem nI_255 (x : Nat) : nI x &&& 255 = nI (x % 256) := by
  rw [pk_and (nI x) 8 (m := 255) (by decide), nI_tn]
  congr 1
  omega
-- the class's methods
set_option maxRecDepth 20000 in
theorem c_PK_sizeOf {l : Launch} {V : xV} {I : xIt} {J : xJt} {P : xPt} {L : List Nat} (hL : xL P) (hl : L.length ≤ 6) (hb : by8 L) : xMet l V y_PK_sizeOf 1 0 0 [xj (pkd L)] xS0 I J P (xPi (fun r I' J' P' => I = I' ∧ J = J' ∧ P = P' ∧ r = nI L.length)) := by
  refine e_PK_sizeOf (b_PK_sizeOf_0 hL ⟨rfl, rfl, rfl, ?_⟩)
  have h := pl_52 hl hb
  unfold pkd
  rw [show (48 : Int32) = nI 48 from rfl, wb_shr (by omega) (by decide), lN_i, pl_len hl hb]
set_option maxRecDepth 20000 in
theorem c_PK_byteAt {l : Launch} {V : xV} {I : xIt} {J : xJt} {P : xPt} {L : List Nat} {j b : Nat} (hL : xL P) (hl : L.length ≤ 6) (hb : by8 L) (hj : L[j]? = some b) : xMet l V y_PK_byteAt 1 0 0 [xj (pkd L), xi (nI j)] xS0 I J P (xPi (fun r I' J' P' => I = I' ∧ J = J' ∧ P = P' ∧ r = nI b)) := by
  refine e_PK_byteAt (b_PK_byteAt_0 hL ⟨rfl, rfl, rfl, ?_⟩)
  have h := pl_52 hl hb
  have hjl := (List.getElem?_eq_some_iff.mp hj).1
  unfold pkd
  rw [show (48 : Int32) = nI 48 from rfl, wb_shr (by omega) (by decide), lN_i, pl_len hl hb, show nI L.length - 1 = nI (L.length - 1) from pk_sub (b := 1) (by omega), pk_sub (show j ≤ L.length - 1 by omega), show (8 : Int32) = nI 8 from rfl, pk_mul, wb_shr (by omega) (by omega), lN_i]
  have hd := pl_digit hl hb hj
  generalize pl L / 2 ^ (8 * (L.length - 1 - j)) = x at hd ⊢
  rw [nI_255, hd]
set_option maxRecDepth 20000 in
theorem c_PK_append {l : Launch} {V : xV} {I : xIt} {J : xJt} {P : xPt} {L : List Nat} {b : Nat} (hL : xL P) (hl : L.length < 6) (hb : by8 L) (h : b < 256) : xMet l V y_PK_append 1 0 0 [xj (pkd L), xi (nI b)] xS0 I J P (xPl (fun r I' J' P' => I = I' ∧ J = J' ∧ P = P' ∧ r = pkd (L ++ [b]))) := by
  refine e_PK_append (b_PK_append_0 hL ⟨rfl, rfl, rfl, ?_⟩)
  have h1 := pl_52 (show L.length ≤ 6 by omega) hb
  unfold pkd
  rw [← pl_app hl hb h, show (48 : Int32) = nI 48 from rfl, show (8 : Int32) = nI 8 from rfl, wb_shr (by omega) (by decide), pl_len (by omega) hb, lN_1, wb_shl _ (by decide), wb_shl _ (by decide), nI_l (by omega), g_or (k := 8) (p := 2 ^ 8) rfl (by omega) (by omega), show (281474976710655 : Int64) = lN (2 ^ 48 - 1) from rfl, wb_mask (by omega) (by decide), g_or (k := 48) (p := 2 ^ 48) rfl (Nat.mod_lt _ (by decide)) (by
    have := Nat.mod_lt (pl L * 2 ^ 8 + b) (show 2 ^ 48 > 0 by decide)
    omega)]

/-! The pure machine: a state is (shapes, ints, longs, references), an object or array is a number; xG is the machine's walk (W) said of such a state. -/
abbrev xX : Type := Int32 ⊕ Int64 ⊕ Option Nat ⊕ Nat
abbrev xi (v : Int32) : xX := Sum.inl v
abbrev xj (v : Int64) : xX := Sum.inr (Sum.inl v)
abbrev xq (r : Option Nat) : xX := Sum.inr (Sum.inr (Sum.inl r))
abbrev xt (j : Nat) : xX := Sum.inr (Sum.inr (Sum.inr j))
/-- base; numbers and slots of the classes; array classes; addresses of the fixed arrays; the script's length and ints -/
abbrev xV : Type := Nat × va_G × (Nat → ClassId) × (Nat → Nat) × Nat × (Nat → Int32)
abbrev xY : Type := MethodName × ByteArray × Nat × Option FieldType
abbrev xSh : Type := List (Nat × Nat)
abbrev xIt : Type := Nat → Nat → Int32
abbrev xJt : Type := Nat → Nat → Int64
abbrev xPt : Type := Nat → Nat → Option Nat
def xv (V : xV) (v : xX) : Value := match v with
  | .inl v => .int v
  | .inr (.inl v) => .long v
  | .inr (.inr (.inl r)) => va_rf (r.map (V.1 + ·))
  | .inr (.inr (.inr j)) => .ref (V.2.2.2.1 j)
def xc2 (v : xX) : Bool := match v with
  | .inr (.inl _) => true
  | _ => false
def xrf (v : xX) : Bool := match v with
  | .inr (.inr _) => true
  | _ => false
theorem xv_c1 (V : xV) {v : xX} (h : xc2 v = false) : (xv V v).category = 1 := by
  rcases v with v | v | r | j
  · rfl
  · cases h
  · cases r <;> rfl
  · rfl
theorem xv_c2 (V : xV) {v : xX} (h : xc2 v = true) : (xv V v).category = 2 := by
  rcases v with v | v | r | j
  · cases h
  · rfl
  · cases h
  · cases h
theorem xv_cb (V : xV) (v : xX) : ((xv V v).category == 2) = xc2 v := by
  cases h : xc2 v with
  | true => rw [xv_c2 V h]; rfl
  | false => rw [xv_c1 V h]; rfl
theorem xq_inj {V : xV} {r q : Option Nat} (h : r.map (V.1 + ·) = q.map (V.1 + ·)) : r = q := by
  cases r <;> cases q <;> simp_all
-- locals
def xl (V : xV) (lv : List (Nat × xX)) : List (Nat × Value) := lv.map (fun q => (q.1, xv V q.2))
def xst (lv : List (Nat × xX)) (i : Nat) (v : xX) : List (Nat × xX) := (i, v) :: lv.filter (fun q => !(q.1 == i) && !(q.1 + 1 == i && xc2 q.2))
def xst2 (lv : List (Nat × xX)) (i : Nat) (v : xX) : List (Nat × xX) := (i, v) :: lv.filter (fun q => !(q.1 == i) && (!(q.1 == i + 1) && !(q.1 + 1 == i && xc2 q.2)))
theorem xl_st (V : xV) (lv : List (Nat × xX)) (i : Nat) (v : xX) : (i, xv V v) :: (xl V lv).filter (fun q => !(q.1 == i) && !(q.1 + 1 == i && q.2.category == 2)) = xl V (xst lv i v) := by
  simp only [xl, xst, List.map_cons, List.filter_map]
  congr 3
  funext q
  simp only [Function.comp, xv_cb]
theorem xl_st2 (V : xV) (lv : List (Nat × xX)) (i : Nat) (v : xX) : (i, xv V v) :: (xl V lv).filter (fun q => !(q.1 == i) && (!(q.1 == i + 1) && !(q.1 + 1 == i && q.2.category == 2))) = xl V (xst2 lv i v) := by
  simp only [xl, xst2, List.map_cons, List.filter_map]
  congr 3
  funext q
  simp only [Function.comp, xv_cb]
theorem x_lookup_mem : ∀ {lv : List (Nat × xX)} {i : Nat} {v : xX}, lv.lookup i = some v → (i, v) ∈ lv
  | [], _, _, h => by cases h
  | (j, w) :: t, i, v, h => by
    rw [List.lookup_cons] at h
    cases hb : (i == j) with
    | true =>
      rw [hb] at h
      have hij : i = j := by simpa using hb
      cases h
      rw [hij]
      exact List.mem_cons_self
    | false =>
      rw [hb] at h
      exact List.mem_cons_of_mem _ (x_lookup_mem h)
theorem xl_at {V : xV} {ls : Array Slot} {n : Nat} {lv : List (Nat × xX)} {i : Nat} {v : xX} (h : lv_has ls n (xl V lv)) (hk : lv.lookup i = some v) : ls[i]? = some (.val (xv V v)) :=
  h.2.2 (i, xv V v) (List.mem_map.mpr ⟨(i, v), x_lookup_mem hk, rfl⟩)
theorem xl_place (V : xV) {lv : List (Nat × xX)} {i : Nat} {v : xX} (hk : lv.lookup i = some v) : ∃ k : Nat, (xl V lv)[k]? = some (i, xv V v) :=
  List.getElem?_of_mem (List.mem_map.mpr ⟨(i, v), x_lookup_mem hk, rfl⟩)
def xargs : Nat → List xX → List (Nat × xX)
  | _, [] => []
  | k, v :: t => (k, v) :: xargs (if xc2 v then k + 2 else k + 1) t
theorem xl_args (V : xV) : ∀ (k : Nat) (as : List xX), lv_args k (as.map (xv V)) = xl V (xargs k as)
  | _, [] => rfl
  | k, v :: t => by
    have hb := xv_cb V v
    simp only [List.map_cons, lv_args, xargs, xl]
    cases hc : xc2 v with
    | true => simp [xv_c2 V hc, xl_args V (k + 2) t, xl]
    | false => simp [xv_c1 V hc, xl_args V (k + 1) t, xl]
-- cells
def xu {α : Type} (f : Nat → Nat → α) (a k : Nat) (v : α) : Nat → Nat → α := fun b j => if b = a ∧ j = k then v else f b j
def xz {α : Type} (f : Nat → Nat → α) (a : Nat) (v : α) : Nat → Nat → α := fun b j => if b = a then v else f b j
theorem xu_ne {α : Type} {f : Nat → Nat → α} {a k : Nat} {v : α} {b : Nat} (h : b ≠ a) : xu f a k v b = f b := by
  funext j; simp [xu, h]
theorem xu_at {α : Type} {f : Nat → Nat → α} {a k : Nat} {v : α} : xu f a k v a k = v := by simp [xu]
theorem xu_nk {α : Type} {f : Nat → Nat → α} {a k : Nat} {v : α} {j : Nat} (h : j ≠ k) : xu f a k v a j = f a j := by simp [xu, h]
theorem xz_ne {α : Type} {f : Nat → Nat → α} {a : Nat} {v : α} {b : Nat} (h : b ≠ a) : xz f a v b = f b := by
  funext j; simp [xz, h]
theorem xz_at {α : Type} {f : Nat → Nat → α} {a : Nat} {v : α} : xz f a v a = fun _ => v := by funext j; simp [xz]
def xfv (V : xV) (I : xIt) (J : xJt) (P : xPt) (a k : Nat) (ty : FieldType) : Value := match ty with
  | .long => .long (J a k)
  | .object _ => va_rf ((P a k).map (V.1 + ·))
  | .array _ => va_rf ((P a k).map (V.1 + ·))
  | _ => .int (I a k)
def xNf (ci : Nat) : Nat := match xCl[ci]? with
  | some q => q.2.2
  | none => 0
def xfs (V : xV) (I : xIt) (J : xJt) (P : xPt) (a ci : Nat) : List Value := (List.range (xNf ci)).map (fun k => xfv V I J P a k (xTy ci k))
def xco (V : xV) (I : xIt) (J : xJt) (P : xPt) (a t : Nat) : (Nat → Int32) ⊕ (Nat → Int64) ⊕ (Nat → UInt32) ⊕ (Nat → UInt64) ⊕ (Nat → Option Nat) := match t with
  | 0 => .inl (I a)
  | 1 => .inr (.inl (J a))
  | _ => .inr (.inr (.inr (.inr (fun k => (P a k).map (V.1 + ·)))))
def xcell (V : xV) (I : xIt) (J : xJt) (P : xPt) (a : Nat) (sh : Nat × Nat) : va_E :=
  if sh.1 < 64 then .inr (sh.1, xfs V I J P a sh.1) else .inl (V.2.2.1 (sh.1 - 64), sh.2, xco V I J P a (sh.1 - 64))
def xws (V : xV) (S : xSh) (I : xIt) (J : xJt) (P : xPt) : va_W := S.mapIdx (fun a sh => (V.1 + a, xcell V I J P a sh))
def xA (V : xV) : Nat → Prop := fun q => V.1 ≤ q
section XW
variable {V : xV} {S : xSh} {I I' : xIt} {J J' : xJt} {P P' : xPt} {a n t ci : Nat} {sh : Nat × Nat}
theorem xws_sh (ha : S[a]? = some sh) : (xws V S I J P)[a]? = some (V.1 + a, xcell V I J P a sh) := by
  simp [xws, List.getElem?_mapIdx, ha]
theorem xws_obj (ha : S[a]? = some (ci, n)) (hc : ci < 64) : (xws V S I J P)[a]? = some (V.1 + a, .inr (ci, xfs V I J P a ci)) := by
  rw [xws_sh ha, xcell, if_pos hc]
theorem xws_arr (ha : S[a]? = some (t + 64, n)) : (xws V S I J P)[a]? = some (V.1 + a, .inl (V.2.2.1 t, n, xco V I J P a t)) := by
  rw [xws_sh ha, xcell, if_neg (by simp)]
  simp
theorem xws_get (ha : S[a]? = some (64, n)) : (xws V S I J P)[a]? = some (V.1 + a, .inl (V.2.2.1 0, n, .inl (I a))) := xws_arr (t := 0) ha
theorem xws_getj (ha : S[a]? = some (65, n)) : (xws V S I J P)[a]? = some (V.1 + a, .inl (V.2.2.1 1, n, .inr (.inl (J a)))) := xws_arr (t := 1) ha
theorem xws_getq (ha : S[a]? = some (t + 66, n)) : (xws V S I J P)[a]? = some (V.1 + a, .inl (V.2.2.1 (t + 2), n, .inr (.inr (.inr (.inr (fun k => (P a k).map (V.1 + ·))))))) := xws_arr (t := t + 2) ha
theorem xws_key {i : Nat} {q : Nat × va_E} (h : (xws V S I J P)[i]? = some q) : q.1 = V.1 + i ∧ i < S.length := by
  simp only [xws, List.getElem?_mapIdx, Option.map_eq_some_iff] at h
  obtain ⟨sh, h1, h2⟩ := h
  exact ⟨by rw [← h2], (List.getElem?_eq_some_iff.mp h1).1⟩
theorem xws_D : va_D (xA V) (xws V S I J P) := by
  refine ⟨fun i j p q hi hj he => ?_, fun k q hk => ?_⟩
  · have h1 := (xws_key hi).1
    have h2 := (xws_key hj).1
    omega
  · have h1 := (xws_key hk).1
    show V.1 ≤ q.1
    omega
theorem xws_set (ha : S[a]? = some sh) (ho : ∀ (i : Nat) (q : Nat × Nat), i ≠ a → xcell V I' J' P' i q = xcell V I J P i q) : (xws V S I J P).set a (V.1 + a, xcell V I' J' P' a sh) = xws V S I' J' P' := by
  have hl := (List.getElem?_eq_some_iff.mp ha).1
  apply List.ext_getElem?
  intro i
  rw [List.getElem?_set]
  by_cases hi : a = i
  · subst hi
    have hl2 : a < (xws V S I J P).length := by simp only [xws, List.length_mapIdx]; exact hl
    rw [if_pos rfl, if_pos hl2, xws_sh ha]
  · simp only [hi, if_false, xws, List.getElem?_mapIdx]
    cases hs : S[i]? with
    | none => rfl
    | some q => simp [ho i q (fun h => hi h.symm)]
theorem xcell_I {k i : Nat} {x : Int32} (h : i ≠ a) (q : Nat × Nat) : xcell V (xu I a k x) J P i q = xcell V I J P i q := by
  unfold xcell xfs xco xfv
  rw [xu_ne h]
theorem xcell_J {k i : Nat} {x : Int64} (h : i ≠ a) (q : Nat × Nat) : xcell V I (xu J a k x) P i q = xcell V I J P i q := by
  unfold xcell xfs xco xfv
  rw [xu_ne h]
theorem xcell_P {k i : Nat} {x : Option Nat} (h : i ≠ a) (q : Nat × Nat) : xcell V I J (xu P a k x) i q = xcell V I J P i q := by
  unfold xcell xfs xco xfv
  rw [xu_ne h]
theorem xcell_z {i : Nat} {x : Int32} {y : Int64} {z : Option Nat} (h : i ≠ a) (q : Nat × Nat) : xcell V (xz I a x) (xz J a y) (xz P a z) i q = xcell V I J P i q := by
  unfold xcell xfs xco xfv
  rw [xz_ne h, xz_ne h, xz_ne h]
theorem xfs_len : (xfs V I J P a ci).length = xNf ci := by simp [xfs]
theorem xfs_get {k : Nat} (hk : k < xNf ci) : (xfs V I J P a ci)[k]? = some (xfv V I J P a k (xTy ci k)) := by
  simp [xfs, List.getElem?_range hk]
theorem xfs_set {k : Nat} {v : Value} (hk : k < xNf ci) (h1 : xfv V I' J' P' a k (xTy ci k) = v) (h2 : ∀ j, j ≠ k → xfv V I' J' P' a j (xTy ci j) = xfv V I J P a j (xTy ci j)) : (xfs V I J P a ci).set k v = xfs V I' J' P' a ci := by
  apply List.ext_getElem?
  intro i
  rw [List.getElem?_set]
  by_cases hi : k = i
  · subst hi
    rw [if_pos rfl, if_pos (by rw [xfs_len]; exact hk), xfs_get hk, h1]
  · simp only [hi, if_false]
    by_cases hl : i < xNf ci
    · rw [xfs_get hl, xfs_get hl, h2 i (fun h => hi h.symm)]
    · rw [List.getElem?_eq_none (by rw [xfs_len]; omega), List.getElem?_eq_none (by rw [xfs_len]; omega)]
theorem xws_push {x : Int32} {y : Int64} {z : Option Nat} (ha : S.length = a) : xws V (S ++ [sh]) (xz I a x) (xz J a y) (xz P a z) = xws V S I J P ++ [(V.1 + a, xcell V (xz I a x) (xz J a y) (xz P a z) a sh)] := by
  subst ha
  apply List.ext_getElem?
  intro i
  have hlen : (xws V S I J P).length = S.length := by simp [xws]
  by_cases hi : i < S.length
  · rw [List.getElem?_append_left (by rw [hlen]; exact hi)]
    simp only [xws, List.getElem?_mapIdx, List.getElem?_append_left hi]
    cases hs : S[i]? with
    | none => rfl
    | some q => simp [xcell_z (Nat.ne_of_lt hi) q]
  · rw [List.getElem?_append_right (by rw [hlen]; omega), hlen]
    simp only [xws, List.getElem?_mapIdx]
    rw [List.getElem?_append_right (by omega)]
    by_cases h0 : i = S.length
    · subst h0
      simp
    · have h1 : ∃ m, i - S.length = m + 1 := ⟨i - S.length - 1, by omega⟩
      obtain ⟨m, hm⟩ := h1
      rw [hm]
      rfl
end XW

/-! both objects stand -/
def bL : List ((Nat × Nat) × Nat) := [((0, 5), 1), ((0, 6), 13), ((0, 7), 17), ((0, 8), 21), ((0, 9), 227), ((0, 10), 248), ((1, 0), 2), ((1, 7), 3), ((1, 8), 4), ((1, 10), 5), ((1, 12), 6), ((6, 0), 7), ((6, 1), 8), ((6, 2), 9), ((6, 3), 10), ((6, 4), 11), ((6, 5), 12), ((13, 0), 14), ((13, 1), 15), ((13, 2), 16), ((17, 0), 18), ((17, 1), 19), ((17, 2), 20), ((21, 0), 22), ((227, 0), 228), ((227, 1), 245), ((245, 0), 246), ((245, 1), 247), ((248, 0), 249), ((250, 2), 251), ((250, 19), 252), ((250, 20), 253), ((250, 22), 254), ((250, 23), 255), ((250, 25), 256), ((250, 26), 257), ((250, 28), 258), ((250, 29), 259), ((250, 30), 260), ((250, 31), 261), ((250, 32), 262), ((250, 33), 263), ((250, 34), 264), ((250, 35), 265), ((250, 36), 266), ((250, 38), 267), ((250, 39), 268), ((250, 40), 269), ((250, 41), 270), ((250, 43), 271), ((250, 45), 272)]
def eL (e : Nat) : List ((Nat × Nat) × Nat) := ((e, 0), e + 1) :: (List.range 5).flatMap (fun u => [((e + 1, u), e + 2 + 3 * u), ((e + 2 + 3 * u, 0), e + 3 + 3 * u), ((e + 2 + 3 * u, 1), e + 4 + 3 * u)])
theorem xPL_in : xPL.all (fun q => bL.contains q || (List.range 12).any (fun i => (eL (23 + 17 * i)).contains q) || (eL 228).contains q) = true := by decide +kernel
def hP (P : xPt) (q : (Nat × Nat) × Nat) : Prop := P q.1.1 q.1.2 = some q.2
theorem eL_ok {e : Nat} {P : xPt} (h : kE e P) : ∀ q ∈ eL e, hP P q := by
  intro q hq
  rcases List.mem_cons.mp hq with rfl | hq
  · exact h.1
  · obtain ⟨u, hu, hq⟩ := List.mem_flatMap.mp hq
    have hu := h.2 u (List.mem_range.mp hu)
    simp only [List.mem_cons, List.not_mem_nil, or_false] at hq
    rcases hq with rfl | rfl | rfl
    · exact hu.1
    · exact hu.2.1.trans (congrArg some (by omega))
    · exact hu.2.2.trans (congrArg some (by omega))
theorem mem_of_lookup {α β : Type} [BEq α] [LawfulBEq α] : ∀ {L : List (α × β)} {i : α} {v : β}, L.lookup i = some v → (i, v) ∈ L
  | [], _, _, h => by cases h
  | (j, w) :: t, i, v, h => by
    rw [List.lookup_cons] at h
    cases hb : (i == j) with
    | true =>
      rw [hb] at h
      have hij : i = j := by simpa using hb
      cases h
      rw [hij]
      exact List.mem_cons_self
    | false =>
      rw [hb] at h
      exact List.mem_cons_of_mem _ (mem_of_lookup h)
theorem xL_of {P : xPt} (hb : ∀ q ∈ bL, hP P q) (he : ∀ i, i < 12 → kE (23 + 17 * i) P) (h8 : kE 228 P) : xL P := by
  intro a k h
  unfold xFz at h
  obtain ⟨v, hv⟩ := Option.isSome_iff_exists.mp h
  have hm := mem_of_lookup hv
  have hin := List.all_eq_true.mp xPL_in _ hm
  have hq : hP P ((a, k), v) := by
    rw [Bool.or_eq_true, Bool.or_eq_true] at hin
    rcases hin with (hin | hin) | hin
    · exact hb _ (by simpa using hin)
    · obtain ⟨i, hi, hin⟩ := List.any_eq_true.mp hin
      exact eL_ok (he i (List.mem_range.mp hi)) _ (by simpa using hin)
    · exact eL_ok h8 _ (by simpa using hin)
  unfold xP0
  rw [hv]
  exact hq
def S00 : Ss := ([], none, -1, 0, true, [], [])
theorem S00_ok : sok S00 := ⟨inv_nil, fun k hk => (by cases hk), by decide, Or.inl rfl, fun c hc => (by cases hc), by decide⟩
theorem xS0_is : ([] : xSh) ++ shDS ++ shRF = xS0 := by decide +kernel
set_option maxRecDepth 20000 in
theorem st_ok {I1 I2 : xIt} {J2 : xJt} {P1 P2 : xPt} (h1 : kDS 0 I1 P1) (h2 : kRF 250 (xz I1 250 0) I2 P2) (hf : ∀ c k, c < 250 → I2 c k = xz I1 250 0 c k ∧ P2 c k = xz P1 250 none c k) : xCla I2 J2 P2 S00 ∧ xRl I2 S00 := by
  have fI : ∀ c k, c < 250 → I2 c k = I1 c k := fun c k hc => (hf c k hc).1.trans (by rw [xz_ne (by omega)])
  have fP : ∀ c k, c < 250 → P2 c k = P1 c k := fun c k hc => (hf c k hc).2.trans (by rw [xz_ne (by omega)])
  obtain ⟨⟨a0, a1, a2, a3, a4⟩, ⟨b5, b6, b7, b8, b9, b10⟩, kq, kn, kn2, kt, ke, ka, kb⟩ := h1
  have kt := kt.keep (fun c k _ h => fI c k (by omega)) (fun c k _ h => fP c k (by omega))
  have ke := ke.keep (fun c k _ h => fP c k (by omega))
  have kq := kq.keep (fun c k _ h => fP c k (by omega))
  have kn := kn.keep (fun c k _ h => fP c k (by omega))
  have kn2 := kn2.keep (fun c k _ h => fP c k (by omega))
  obtain ⟨r2, r19, r20, r22, r23, r25, r26, r28, r29, r30, r31, r32, r33, r34, r35, r36, r38, r39, r40, r41, r43, r45, j37, j46, jz⟩ := h2
  have b5 := (fP 0 5 (by omega)).trans b5
  have b6 := (fP 0 6 (by omega)).trans b6
  have b7 := (fP 0 7 (by omega)).trans b7
  have b8 := (fP 0 8 (by omega)).trans b8
  have b9 := (fP 0 9 (by omega)).trans b9
  have b10 := (fP 0 10 (by omega)).trans b10
  have ka := (fP 248 0 (by omega)).trans ka
  obtain ⟨q0, q7, q8, q10, q12, f0, f1, f2, f3, f4, f5⟩ := kq
  obtain ⟨n0, n1, n2⟩ := kn
  obtain ⟨m0, m1, m2⟩ := kn2
  obtain ⟨t0, t1, te⟩ := kt
  obtain ⟨e0, e1, e2, e3, e4⟩ := ke
  have hL : xL P2 := by
    refine xL_of (fun q hq => ?_) (fun i hi => ?_) e1
    · simp only [bL, List.mem_cons, List.not_mem_nil, or_false] at hq
      rcases hq with rfl | rfl | rfl | rfl | rfl | rfl | rfl | rfl | rfl | rfl | rfl | rfl | rfl | rfl | rfl | rfl | rfl | rfl | rfl | rfl | rfl | rfl | rfl | rfl | rfl | rfl | rfl | rfl | rfl | rfl | rfl | rfl | rfl | rfl | rfl | rfl | rfl | rfl | rfl | rfl | rfl | rfl | rfl | rfl | rfl | rfl | rfl | rfl | rfl | rfl | rfl
      all_goals (unfold hP; assumption)
    · have := (te i hi).2
      rwa [show 0 + 21 + 2 + 17 * i = 23 + 17 * i by omega] at this
  have z : ∀ k, k ≠ 37 → k ≠ 46 → I2 250 k = 0 := fun k h1 h2 => (jz k h1 h2).trans (by rw [xz_at])
  refine ⟨⟨hL, ⟨fun i => 23 + 17 * i, ⟨t0, by decide, fun i hi => ⟨?_, ?_, by show 23 + 17 * i < 227; omega⟩, fun i j hi hj h => ?_, fun i x hx => (by cases hx)⟩, (fP 0 2 (by omega)).trans a2⟩, (fI 0 3 (by omega)).trans a3, (fI 0 4 (by omega)).trans a4, (fI 0 1 (by omega)).trans a1, (fI 0 0 (by omega)).trans a0, fun j c hj => (by cases hj), (fI 248 1 (by omega)).trans kb, by decide, fun i b hi => (by cases hi)⟩, ⟨z 27 (by decide) (by decide), by decide, fun i x hx => (by cases hx)⟩, j37, j46, z 47 (by decide) (by decide), z 0 (by decide) (by decide), z 1 (by decide) (by decide), fun j c hj => (by cases hj), z 42 (by decide) (by decide), by decide, fun i b hi => (by cases hi)⟩
  · have := (te i hi).1
    show P2 22 i = some (23 + 17 * i)
    rw [show 23 + 17 * i = 0 + 21 + 2 + 17 * i by omega]
    exact this
  · have key : ∀ i, i < 12 → xS0[23 + 17 * i]? = some (5, 0) := by decide +kernel
    exact key i hi
  · have h : 23 + 17 * i = 23 + 17 * j := h
    omega

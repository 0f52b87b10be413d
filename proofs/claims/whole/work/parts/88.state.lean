/-! the state of both: entries, who is bound, code, found, whether open, bytes kept, bytes that went out -/
abbrev Ss : Type := List Ent × Option Nat × Int32 × Nat × Bool × List Nat × List Nat
def gt (M : List Nat) (j : Nat) : Nat := M.getD j 0
theorem gt_at {M : List Nat} {j c : Nat} (h : M[j]? = some c) : gt M j = c := by unfold gt; rw [List.getD_eq_getElem?_getD, h]; rfl
/-- none: the message isn't whole; some none: it never will be; some (some h): it is, with a head of h bytes -/
def jd (M : List Nat) : Option (Option Nat) :=
  if ¬ gt M 0 = 48 then some none else if M.length < 2 then none
  else if gt M 1 < 128 then (if 2 + gt M 1 ≤ M.length then some (some 2) else none)
  else if ¬ gt M 1 = 129 then some none else if M.length < 3 then none
  else if 150 < gt M 2 then some none else if 3 + gt M 2 ≤ M.length then some (some 3) else none
def wt (M : List Nat) : Prop := M = [] ∨ jd M = none
theorem wt_len {M : List Nat} (h : wt M) : M.length ≤ 152 := by
  rcases h with rfl | h
  · simp
  · unfold jd at h
    repeat' split at h
    all_goals first
      | omega
      | cases h
theorem gt_app {M : List Nat} {b j : Nat} (h : j < M.length) : gt (M ++ [b]) j = gt M j := by
  unfold gt
  rw [List.getD_eq_getElem?_getD, List.getD_eq_getElem?_getD, List.getElem?_append_left h]
/-- what is known of bytes that wait -/
theorem wt_ex {M : List Nat} (h : wt M) : M.length = 0 ∨ (gt M 0 = 48 ∧ (M.length < 2 ∨ (gt M 1 < 128 ∧ M.length < 2 + gt M 1) ∨ (gt M 1 = 129 ∧ (M.length < 3 ∨ (gt M 2 ≤ 150 ∧ M.length < 3 + gt M 2))))) := by
  rcases h with rfl | h
  · left; rfl
  · right
    unfold jd at h
    generalize gt M 0 = y0 at h ⊢
    generalize gt M 1 = y1 at h ⊢
    generalize gt M 2 = y2 at h ⊢
    generalize M.length = n at h ⊢
    repeat' split at h
    all_goals first
      | (refine ⟨by omega, ?_⟩; omega)
      | cases h
theorem jd_exact {M : List Nat} {b h : Nat} (hw : wt M) (hj : jd (M ++ [b]) = some (some h)) : (h = 2 ∨ h = 3) ∧ (M ++ [b]).length = h + gt (M ++ [b]) (h - 1) ∧ gt (M ++ [b]) 0 = 48 ∧ (h = 2 → gt (M ++ [b]) 1 < 128) ∧ (h = 3 → gt (M ++ [b]) 1 = 129 ∧ gt (M ++ [b]) 2 ≤ 150) := by
  have hlen : (M ++ [b]).length = M.length + 1 := by simp
  have a0 : 0 < M.length → gt (M ++ [b]) 0 = gt M 0 := gt_app
  have a1 : 1 < M.length → gt (M ++ [b]) 1 = gt M 1 := gt_app
  have a2 : 2 < M.length → gt (M ++ [b]) 2 = gt M 2 := gt_app
  have hM := wt_ex hw
  unfold jd at hj
  rw [hlen] at hj ⊢
  by_cases c0 : ¬ gt (M ++ [b]) 0 = 48
  · rw [if_pos c0] at hj; cases hj
  rw [if_neg c0] at hj
  by_cases c1 : M.length + 1 < 2
  · rw [if_pos c1] at hj; cases hj
  rw [if_neg c1] at hj
  by_cases c2 : gt (M ++ [b]) 1 < 128
  · rw [if_pos c2] at hj
    by_cases c3 : 2 + gt (M ++ [b]) 1 ≤ M.length + 1
    · rw [if_pos c3] at hj
      cases hj
      refine ⟨Or.inl rfl, ?_, by omega, fun _ => c2, fun h => by omega⟩
      show M.length + 1 = 2 + gt (M ++ [b]) 1
      by_cases hl : 1 < M.length
      · have := a1 hl
        omega
      · omega
    · rw [if_neg c3] at hj; cases hj
  rw [if_neg c2] at hj
  by_cases c3 : ¬ gt (M ++ [b]) 1 = 129
  · rw [if_pos c3] at hj; cases hj
  rw [if_neg c3] at hj
  by_cases c4 : M.length + 1 < 3
  · rw [if_pos c4] at hj; cases hj
  rw [if_neg c4] at hj
  by_cases c5 : 150 < gt (M ++ [b]) 2
  · rw [if_pos c5] at hj; cases hj
  rw [if_neg c5] at hj
  by_cases c6 : 3 + gt (M ++ [b]) 2 ≤ M.length + 1
  · rw [if_pos c6] at hj
    cases hj
    refine ⟨Or.inr rfl, ?_, by omega, fun h => by omega, fun _ => ⟨by omega, by omega⟩⟩
    show M.length + 1 = 3 + gt (M ++ [b]) 2
    have h1 := a1 (by omega)
    by_cases hl : 2 < M.length
    · have := a2 hl
      omega
    · omega
  · rw [if_neg c6] at hj; cases hj
/-- what the class's decoding finds in a message that is judged -/
theorem jd_dg {M : List Nat} {b : Nat} {o : Option Nat} (hw : wt M) (hj : jd (M ++ [b]) = some o) : dg (gt (M ++ [b])) (M ++ [b]).length = o.bind (fun h => fg (gt (M ++ [b])) h (M ++ [b]).length) := by
  have hlen : (M ++ [b]).length = M.length + 1 := by simp
  have a0 : 0 < M.length → gt (M ++ [b]) 0 = gt M 0 := gt_app
  have a1 : 1 < M.length → gt (M ++ [b]) 1 = gt M 1 := gt_app
  have hM := wt_ex hw
  cases o with
  | some h =>
    have he := jd_exact hw hj
    generalize hm : gt (M ++ [b]) = m at *
    generalize (M ++ [b]).length = e at *
    rw [Option.bind_some]
    unfold dg
    rcases he.1 with rfl | rfl
    · have h1 := he.2.2.2.1 rfl
      have h2 : e = 2 + m 1 := he.2.1
      have htl : tl m 0 e = some (48, 2, e) := by
        unfold tl
        rw [if_pos (by omega), if_neg (by simp; omega), if_pos (by simp; omega), if_pos (by simp; omega)]
        simp
        omega
      have htk : tk m 48 255 0 e = some (2, e) := by
        unfold tk
        rw [htl]
        simp only
        rw [if_pos ⟨trivial, by omega⟩]
      rw [htk, Option.bind_some]
      simp
    · have h1 := he.2.2.2.2 rfl
      have h2 : e = 3 + m 2 := he.2.1
      have htl : tl m 0 e = some (48, 3, e) := by
        unfold tl
        rw [if_pos (by omega), if_pos (by simp; omega), if_pos (by omega), if_pos (by simp; omega)]
        simp
        omega
      have htk : tk m 48 255 0 e = some (3, e) := by
        unfold tk
        rw [htl]
        simp only
        rw [if_pos ⟨trivial, by omega⟩]
      rw [htk, Option.bind_some]
      simp
  | none =>
    rw [Option.bind_none]
    have hno : tk (gt (M ++ [b])) 48 255 0 (M ++ [b]).length = none := by
      unfold jd at hj
      rw [hlen] at hj ⊢
      unfold tk
      by_cases c0 : ¬ gt (M ++ [b]) 0 = 48
      · cases ht : tl (gt (M ++ [b])) 0 (M.length + 1) with
        | none => rfl
        | some q =>
          have := (tl_bd (t := q.1) (f := q.2.1) (u := q.2.2) ht).1
          simp only
          rw [if_neg (by omega)]
      rw [if_neg c0] at hj
      by_cases c1 : M.length + 1 < 2
      · rw [if_pos c1] at hj; cases hj
      rw [if_neg c1] at hj
      by_cases c2 : gt (M ++ [b]) 1 < 128
      · rw [if_pos c2] at hj
        by_cases c3 : 2 + gt (M ++ [b]) 1 ≤ M.length + 1
        · rw [if_pos c3] at hj; cases hj
        · rw [if_neg c3] at hj; cases hj
      rw [if_neg c2] at hj
      by_cases c3 : ¬ gt (M ++ [b]) 1 = 129
      · have ht : tl (gt (M ++ [b])) 0 (M.length + 1) = none := by
          unfold tl
          rw [if_pos (by omega), if_neg (by simpa using c3), if_neg (by simp; omega)]
        rw [ht]
      rw [if_neg c3] at hj
      by_cases c4 : M.length + 1 < 3
      · rw [if_pos c4] at hj; cases hj
      rw [if_neg c4] at hj
      by_cases c5 : 150 < gt (M ++ [b]) 2
      · have hl : M.length + 1 = 3 := by
          by_cases hl : 2 < M.length
          · have := a1 (by omega)
            have a2 : gt (M ++ [b]) 2 = gt M 2 := gt_app hl
            omega
          · omega
        have ht : tl (gt (M ++ [b])) 0 (M.length + 1) = none := by
          unfold tl
          rw [if_pos (by omega), if_pos (by simp; omega), if_pos (by omega), if_neg (by simp; omega)]
        rw [ht]
      rw [if_neg c5] at hj
      by_cases c6 : 3 + gt (M ++ [b]) 2 ≤ M.length + 1
      · rw [if_pos c6] at hj; cases hj
      · rw [if_neg c6] at hj; cases hj
    unfold dg
    rw [hno]
    rfl
theorem fg_ok {m : Nat → Nat} {b e : Nat} {q : Int32 × Nat × Nat} (hb : ∀ j, j < e → m j < 256) (h : fg m b e = some q) : (∃ d, 1 ≤ d ∧ d < 32768 ∧ q.1 = nI d) ∧ q.2.1 < 256 ∧ q.2.2 ≤ e ∧ fok m q.2.1 q.2.2 e = true := by
  unfold fg at h
  obtain ⟨p, hp, h⟩ := Option.bind_eq_some_iff.mp h
  by_cases hf : fok m p.2.1 p.2.2 e = true
  · rw [if_pos hf] at h
    cases h
    unfold fm at hp
    obtain ⟨n, hn, hp⟩ := Option.bind_eq_some_iff.mp hp
    by_cases h1 : 1 ≤ n.1
    · rw [if_pos h1] at hp
      obtain ⟨x, hx, hp⟩ := Option.bind_eq_some_iff.mp hp
      by_cases h2 : x.2.2 = e
      · rw [if_pos h2] at hp
        cases hp
        have b1 := tl_bd (t := x.1) (f := x.2.1) (u := x.2.2) hx
        have b2 := ig_ne hb hn
        refine ⟨?_, by show x.1 < 256; rw [b1.1]; exact hb _ (by omega), by show x.2.1 ≤ e; omega, hf⟩
        have h3 : ¬ n.1 < 0 := fun h => Int32.lt_irrefl (Int32.lt_of_lt_of_le h (Int32.le_trans (by decide : (0 : Int32) ≤ 1) h1))
        have hc : (32767 : Int32).toInt = 32767 := by decide
        have h4 : n.1 ≤ (32767 : Int32) := Int32.le_iff_toInt_le.mpr (by rw [hc]; exact b2.2)
        obtain ⟨d, hd, hnd⟩ := nI_of2 (M := 32767) (n := 32767) (by decide) h3 h4
        refine ⟨d, ?_, by omega, hnd⟩
        rcases Nat.eq_zero_or_pos d with hz | hz
        · exfalso
          rw [hnd, hz] at h1
          exact absurd h1 (by decide)
        · exact hz
      · rw [if_neg h2] at hp; cases hp
    · rw [if_neg h1] at hp; cases hp
  · rw [if_neg hf] at h; cases h
/-- one byte comes; whether it ends a message -/
def nxt (S : Ss) (b : Nat) : Ss × Bool :=
  if S.2.2.2.2.1 = true then
    match jd (S.2.2.2.2.2.1 ++ [b]) with
    | none => ((S.1, S.2.1, S.2.2.1, S.2.2.2.1, true, S.2.2.2.2.2.1 ++ [b], S.2.2.2.2.2.2), false)
    | some o => (match o.bind (fun h => fg (gt (S.2.2.2.2.2.1 ++ [b])) h (S.2.2.2.2.2.1 ++ [b]).length) with
      | none => (S.1, S.2.1, S.2.2.1, S.2.2.2.1, false, [], ntc)
      | some q => if q.2.1 = 66 then (S.1, S.2.1, S.2.2.1, S.2.2.2.1, false, [], [])
        else ((prf (gt (S.2.2.2.2.2.1 ++ [b])) (S.2.2.2.2.2.1 ++ [b]).length q.1.toNatClampNeg q.2.1 q.2.2 S.1 S.2.1 S.2.2.2.1).2.1, (prf (gt (S.2.2.2.2.2.1 ++ [b])) (S.2.2.2.2.2.1 ++ [b]).length q.1.toNatClampNeg q.2.1 q.2.2 S.1 S.2.1 S.2.2.2.1).2.2.1, nI (prf (gt (S.2.2.2.2.2.1 ++ [b])) (S.2.2.2.2.2.1 ++ [b]).length q.1.toNatClampNeg q.2.1 q.2.2 S.1 S.2.1 S.2.2.2.1).1, (prf (gt (S.2.2.2.2.2.1 ++ [b])) (S.2.2.2.2.2.1 ++ [b]).length q.1.toNatClampNeg q.2.1 q.2.2 S.1 S.2.1 S.2.2.2.1).2.2.2.1, true, [], (prf (gt (S.2.2.2.2.2.1 ++ [b])) (S.2.2.2.2.2.1 ++ [b]).length q.1.toNatClampNeg q.2.1 q.2.2 S.1 S.2.1 S.2.2.2.1).2.2.2.2 ++ rsb q.1.toNatClampNeg q.2.1 (prf (gt (S.2.2.2.2.2.1 ++ [b])) (S.2.2.2.2.2.1 ++ [b]).length q.1.toNatClampNeg q.2.1 q.2.2 S.1 S.2.1 S.2.2.2.1).1), true)
  else (S, false)
def sok (S : Ss) : Prop := inv S.1 ∧ bok S.1 S.2.1 ∧ S.2.2.2.1 ≤ 12 ∧ wt S.2.2.2.2.2.1 ∧ by8 S.2.2.2.2.2.1 ∧ S.2.2.2.2.2.2.length ≤ 1767
theorem gt_256 {M : List Nat} (h : by8 M) : ∀ j, j < M.length → gt M j < 256 := fun j hj => by rw [gt_at (List.getElem?_eq_getElem hj)]; exact h _ (List.getElem_mem hj)
theorem nxt_ok {S : Ss} {b : Nat} (h : sok S) (hb : b < 256) : sok (nxt S b).1 := by
  obtain ⟨h1, h2, h3, h4, h5, h6⟩ := h
  have h8 : by8 (S.2.2.2.2.2.1 ++ [b]) := by8_app h5 (fun c hc => by simp at hc; omega)
  have hl := wt_len h4
  have hlen : (S.2.2.2.2.2.1 ++ [b]).length ≤ 153 := by rw [List.length_append]; simp only [List.length_cons, List.length_nil]; omega
  unfold nxt
  by_cases ho : S.2.2.2.2.1 = true
  · rw [if_pos ho]
    cases hj : jd (S.2.2.2.2.2.1 ++ [b]) with
    | none => exact ⟨h1, h2, h3, Or.inr hj, h8, h6⟩
    | some o =>
      simp only
      have nil8 : by8 ([] : List Nat) := fun c hc => by cases hc
      cases hq : o.bind (fun h => fg (gt (S.2.2.2.2.2.1 ++ [b])) h (S.2.2.2.2.2.1 ++ [b]).length) with
      | none => exact ⟨h1, h2, h3, Or.inl rfl, nil8, by show ntc.length ≤ 1767; decide⟩
      | some q =>
        simp only
        by_cases h66 : q.2.1 = 66
        · rw [if_pos h66]; exact ⟨h1, h2, h3, Or.inl rfl, nil8, by simp⟩
        · rw [if_neg h66]
          have hok := prf_ok (m := gt (S.2.2.2.2.2.1 ++ [b])) (d := q.1.toNatClampNeg) (op := q.2.1) (f := q.2.2) hlen (gt_256 h8) h1 h2 h3
          have h15 := rsb_15 q.1.toNatClampNeg q.2.1 (prf (gt (S.2.2.2.2.2.1 ++ [b])) (S.2.2.2.2.2.1 ++ [b]).length q.1.toNatClampNeg q.2.1 q.2.2 S.1 S.2.1 S.2.2.2.1).1
          exact ⟨hok.1, hok.2.1, hok.2.2.2.1, Or.inl rfl, nil8, Nat.le_trans (Nat.le_of_eq List.length_append) (by omega)⟩
  · rw [if_neg ho]; exact ⟨h1, h2, h3, h4, h5, h6⟩
def fds : List Nat → Ss → Nat → Ss × Nat
  | [], S, c => (S, c)
  | b :: r, S, c => fds r (nxt S b).1 (if (nxt S b).2 = true then c + 1 else c)
/-- a session that is closed takes no byte -/
theorem fds_closed {S : Ss} (h : S.2.2.2.2.1 = false) : ∀ (bs : List Nat) (c : Nat), fds bs S c = (S, c) := by
  intro bs
  induction bs with
  | nil => intro c; rfl
  | cons b r ih =>
    intro c
    have hn : nxt S b = (S, false) := by unfold nxt; rw [if_neg (by rw [h]; decide)]
    rw [fds, hn]
    exact ih c
/-- the bytes of a long, from the n-th on -/
def lby (x n : Nat) : List Nat := ((List.range n).reverse).map (fun k => x / 2 ^ (8 * k) % 256)
theorem lby_succ (x n : Nat) : lby x (n + 1) = (x / 2 ^ (8 * n) % 256) :: lby x n := by simp [lby, List.range_succ]

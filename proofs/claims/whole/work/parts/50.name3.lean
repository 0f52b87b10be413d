/-! the class's reading of a name -/
def nq (m : Nat → Nat) (e : Nat) : Nat → Nat → Option (List (Nat × List Nat × List Nat))
  | 0, _ => none
  | n + 1, p => (np m p e).bind fun x => if x.2.2.2 = e then some [(x.1, x.2.1, x.2.2.1)] else (nq m e n (x.2.2.2 + 1)).map (fun r => (x.1, x.2.1, x.2.2.1) :: r)
/-- a name: its parts, its own part first -/
def nr (m : Nat → Nat) (s e : Nat) : Option (List (Nat × List Nat × List Nat)) := if s = e then some [] else nq m e 3 s
theorem nq_succ (m : Nat → Nat) (e n p : Nat) : nq m e (n + 1) p = (np m p e).bind fun x => if x.2.2.2 = e then some [(x.1, x.2.1, x.2.2.1)] else (nq m e n (x.2.2.2 + 1)).map (fun r => (x.1, x.2.1, x.2.2.1) :: r) := by rw [nq]
theorem sc_bd (m : Nat → Nat) (e : Nat) : ∀ (n k : Nat) (acc : List Nat) (x : List Nat × Nat), k ≤ e → sc m e n k acc = some x → k ≤ x.2 ∧ x.2 ≤ e := by
  intro n
  induction n with
  | zero => intro k acc x _ h; cases h
  | succ n ih =>
    intro k acc x hk h
    rw [sc_succ] at h
    by_cases h1 : e ≤ k
    · rw [if_pos h1] at h; cases h; exact ⟨Nat.le_refl _, hk⟩
    rw [if_neg h1] at h
    by_cases h2 : m k = 44
    · rw [if_pos h2] at h; cases h; exact ⟨Nat.le_refl _, hk⟩
    rw [if_neg h2] at h
    by_cases h3 : m k = 92
    · rw [if_pos h3] at h
      by_cases h4 : k + 1 = e
      · rw [if_pos h4] at h; cases h
      rw [if_neg h4] at h
      by_cases h5 : mkd (m (k + 1)) = true
      · rw [if_pos h5] at h
        have := ih _ _ x (by omega) h
        omega
      · rw [if_neg h5] at h; cases h
    rw [if_neg h3] at h
    by_cases h4 : m k = 61
    · rw [if_pos h4] at h; cases h
    rw [if_neg h4] at h
    have := ih _ _ x (by omega) h
    omega
theorem np_bd {m : Nat → Nat} {p e : Nat} {x : Nat × List Nat × List Nat × Nat} (h : np m p e = some x) : p + 2 ≤ x.2.2.2 ∧ x.2.2.2 ≤ e := by
  unfold np at h
  by_cases h1 : e - p < 2 ∨ ¬ m (p + 1) = 61
  · rw [if_pos h1] at h; cases h
  rw [if_neg h1] at h
  obtain ⟨t, ht, h⟩ := Option.bind_eq_some_iff.mp h
  by_cases h2 : 1 ≤ t ∧ t ≤ 3
  · rw [if_pos h2] at h
    obtain ⟨y, hy, h⟩ := Option.bind_eq_some_iff.mp h
    have b := sc_bd m e 200 (p + 2) [] y (by omega) hy
    by_cases h3 : y.1.length ≤ 6
    · rw [if_pos h3] at h
      obtain ⟨q, hq, rfl⟩ := Option.map_eq_some_iff.mp h
      exact b
    · rw [if_neg h3] at h; cases h
  · rw [if_neg h2] at h; cases h
/-- the name object a holds the parts L -/
def xNm (I : xIt) (J : xJt) (a : Nat) (L : List (Nat × List Nat × List Nat)) : Prop := I a 3 = nI L.length ∧ ∀ (i : Nat) (x : Nat × List Nat × List Nat), L[i]? = some x → I (a + 1) i = nI x.1 ∧ J (a + 2) i = pkd x.2.1 ∧ J (a + 3) i = pkd x.2.2
def Qn (m : Nat → Nat) (s e a : Nat) (I : xIt) (J : xJt) (P : xPt) : Int32 → xIt → xJt → xPt → Prop := fun r I' J' P' => P = P' ∧ (∀ b k, ¬ (b = a ∧ k = 3) → b ≠ a + 1 → I' b k = I b k) ∧ (∀ b k, b ≠ a + 2 → b ≠ a + 3 → J' b k = J b k) ∧ xOp (nr m s e) r (fun L => xNm I' J' a L) ∧ (nr m s e = none → I' a 3 = 0)
set_option maxRecDepth 20000 in
set_option maxHeartbeats 4000000 in
theorem c_NM_read {l : Launch} {V : xV} {I : xIt} {J : xJt} {P : xPt} {m : Nat → Nat} {a k e : Nat} {T : List (Nat × Nat)} {q : Nat × Nat} (hL : xL P) (ha : xS0[a]? = some (3, 0)) (hm : xMs I 2 m e) (he : e ≤ 153) (hT : xTx I T) (hk : T[k]? = some q) (hl : T.length ≤ 75) (hq : q.1 ≤ q.2 ∧ q.2 ≤ e) : xMet l V y_NM_read 5 0 0 [xq (some a), xq (some 1), xi (nI k)] xS0 I J P (xPi (Qn m q.1 q.2 a I J P)) := by
  have ha2 := nm0 a (x_lt0 ha) ha
  have hkl := (List.getElem?_eq_some_iff.mp hk).1
  have hg := hT.2 k q hk
  have loop : ∀ (n j p1 : Nat) (L0 : List (Nat × List Nat × List Nat)) (I1 : xIt) (J1 : xJt), j + n = 3 → L0.length = j → p1 ≤ q.2 → (∀ b k, ¬ (b = a ∧ k = 3) → b ≠ a + 1 → I1 b k = I b k) → (∀ b k, b ≠ a + 2 → b ≠ a + 3 → J1 b k = J b k) → I1 a 3 = 0 → (∀ (i : Nat) (x : Nat × List Nat × List Nat), L0[i]? = some x → I1 (a + 1) i = nI x.1 ∧ J1 (a + 2) i = pkd x.2.1 ∧ J1 (a + 3) i = pkd x.2.2) → (nr m q.1 q.2 = (nq m q.2 n p1).map (fun r => L0 ++ r)) → G_NM_read l V (Qn m q.1 q.2 a I J P) 31 [(0, xq (some a)), (1, xq (some 1)), (2, xi (nI k)), (3, xi (nI p1)), (4, xi (nI q.2)), (5, xi (nI j))] [] I1 J1 P := by
    intro n
    induction n with
    | zero =>
      intro j p1 L0 I1 J1 hj hlen hp1 fI fJ h3 hd hx
      refine b_NM_read_31 hL ha (pk_le 3 j (fun _ => ?_) (fun z => by omega))
      have hn : nr m q.1 q.2 = none := by rw [hx]; rfl
      exact ⟨rfl, fI, fJ, xOp.n hn rfl, fun _ => h3⟩
    | succ n ih =>
      intro j p1 L0 I1 J1 hj hlen hp1 fI fJ h3 hd hx
      rw [nq_succ] at hx
      refine b_NM_read_31 hL ha (pk_le 3 j (fun z => by omega) (fun _ => ⟨fun z => absurd z (nI_pos (by omega)), fun _ => ⟨1, rfl, s0_1, ?_⟩⟩))
      rw [lp_1_0 hL]
      have hm1 : xMs I1 2 m q.2 := fun i hi => ⟨(fI 2 i (by omega) (by omega)).trans (hm i (by omega)).1, (hm i (by omega)).2⟩
      refine ⟨_, c_NM_readPart hL ha hm1 (by omega) hp1 (by omega), ?_⟩
      rintro r I2 J2 _ ⟨rfl, gI, gJ, hr⟩
      have fI2 : ∀ b k, ¬ (b = a ∧ k = 3) → b ≠ a + 1 → I2 b k = I b k := fun b k h1 h2 => (gI b k (fun z => h2 z.1)).trans (fI b k h1 h2)
      have fJ2 : ∀ b k, b ≠ a + 2 → b ≠ a + 3 → J2 b k = J b k := fun b k h1 h2 => (gJ b k (fun z => h1 z.1) (fun z => h2 z.1)).trans (fJ b k h1 h2)
      have h32 : I2 a 3 = 0 := (gI a 3 (by omega)).trans h3
      cases hnp : np m p1 q.2 with
      | none =>
        rw [hnp] at hr hx
        have hr : r = -1 := hr
        subst hr
        have hn : nr m q.1 q.2 = none := by rw [hx]; rfl
        refine ⟨fun _ => ⟨fun z => absurd z (by decide), fun _ => ?_⟩, fun z => ?_⟩
        · refine b_NM_read_31 hL ha ⟨fun _ => ⟨rfl, fI2, fJ2, xOp.n hn rfl, fun _ => h32⟩, fun _ => ⟨fun _ => ⟨rfl, fI2, fJ2, xOp.n hn rfl, fun _ => h32⟩, fun z => absurd (by decide) z⟩⟩
        · have h2 := nI_pos (n := q.2) (by omega)
          rw [← z] at h2
          exact absurd (by decide) h2
      | some x =>
        rw [hnp] at hr hx
        obtain ⟨hr, g1, g2, g3⟩ := hr
        have b := np_bd hnp
        subst hr
        simp only [Option.bind_some] at hx
        have hd2 : ∀ (i : Nat) (y : Nat × List Nat × List Nat), (L0 ++ [(x.1, x.2.1, x.2.2.1)])[i]? = some y → I2 (a + 1) i = nI y.1 ∧ J2 (a + 2) i = pkd y.2.1 ∧ J2 (a + 3) i = pkd y.2.2 := by
          intro i y hi
          by_cases hil : i < L0.length
          · rw [List.getElem?_append_left hil] at hi
            have h7 := hd i y hi
            exact ⟨(gI _ _ (by omega)).trans h7.1, (gJ _ _ (by omega) (by omega)).trans h7.2.1, (gJ _ _ (by omega) (by omega)).trans h7.2.2⟩
          · rw [List.getElem?_append_right (by omega)] at hi
            have h8 : i = L0.length := by
              have := (List.getElem?_eq_some_iff.mp hi).1
              simp at this
              omega
            subst h8
            simp at hi
            subst hi
            rw [hlen]
            exact ⟨g1, g2, g3⟩
        rw [nI_1, nI_1]
        refine (pk_eq x.2.2.2 q.2 (fun z => ?_) (fun z => ⟨fun _ => ?_, fun w => absurd (nI_pos' (by omega)) w⟩)).symm
        · rw [if_pos z] at hx
          refine ⟨rfl, fun b k h1 h2 => (xu_other h1).trans (fI2 b k h1 h2), fJ2, xOp.s (q := L0 ++ [(x.1, x.2.1, x.2.2.1)]) (by rw [hx]; rfl) rfl ⟨by rw [xu_at]; simp [hlen], fun i y hi => ?_⟩, fun w => by rw [hx] at w; cases w⟩
          rw [xu_other (by omega)]
          exact hd2 i y hi
        · rw [if_neg z] at hx
          refine ih (j + 1) (x.2.2.2 + 1) (L0 ++ [(x.1, x.2.1, x.2.2.1)]) I2 J2 (by omega) (by simp; omega) (by omega) fI2 fJ2 h32 hd2 ?_
          rw [hx]
          cases nq m q.2 n (x.2.2.2 + 1) <;> simp
  refine e_NM_read (b_NM_read_0 hL ha ⟨1, rfl, s0_1, pk_in k 75 (by omega), pk_in k 75 (by omega), ?_⟩)
  rw [pk_cl k, show xu I a 3 0 (1 + 2) k = nI q.1 from (xu_other (by omega)).trans hg.1, show xu I a 3 0 (1 + 3) k = nI q.2 from (xu_other (by omega)).trans hg.2]
  have fI : ∀ b k, ¬ (b = a ∧ k = 3) → b ≠ a + 1 → xu I a 3 0 b k = I b k := fun b k h1 _ => xu_other h1
  refine (pk_eq q.1 q.2 (fun z => ⟨rfl, fI, fun _ _ _ _ => rfl, xOp.s (q := []) (by rw [nr, if_pos z]) rfl ⟨xu_at, fun i x hi => by simp at hi⟩, fun w => by rw [nr, if_pos z] at w; cases w⟩) (fun z => ?_)).symm
  refine loop 3 0 q.1 [] _ J rfl rfl hq.1 fI (fun _ _ _ _ => rfl) xu_at (fun i x hi => by simp at hi) ?_
  rw [nr, if_neg z]
  cases nq m q.2 3 q.1 <;> rfl

/-! the class's readPart -/
theorem nm0 : ∀ a, a < 273 → xS0[a]? = some (3, 0) → a = 13 ∨ a = 17 := by decide +kernel
theorem sc_succ (m : Nat → Nat) (e n k : Nat) (acc : List Nat) : sc m e (n + 1) k acc = if e ≤ k then some (acc, k) else if m k = 44 then some (acc, k) else if m k = 92 then (if k + 1 = e then none else if mkd (m (k + 1)) = true then sc m e n (k + 2) (acc ++ [m (k + 1)]) else none) else if m k = 61 then none else sc m e n (k + 1) (acc ++ [m k]) := by rw [sc]
set_option maxRecDepth 20000 in
set_option maxHeartbeats 4000000 in
theorem c_NM_readPart {l : Launch} {V : xV} {I : xIt} {J : xJt} {P : xPt} {m : Nat → Nat} {p e a i : Nat} (hL : xL P) (ha : xS0[a]? = some (3, 0)) (hm : xMs I 2 m e) (he : e ≤ 153) (hp : p ≤ e) (hi : i < 3) : xMet l V y_NM_readPart 4 0 0 [xq (some a), xq (some 2), xi (nI p), xi (nI e), xi (nI i)] xS0 I J P (xPi (Qp m p e a i I J P)) := by
  have hbb : ∀ j, j < e → m j < 256 := fun j hj => (hm j hj).2
  have no : np m p e = none → Qp m p e a i I J P (-1) I J P := fun h => ⟨rfl, fun _ _ _ => rfl, fun _ _ _ _ => rfl, by rw [h]⟩
  refine e_NM_readPart (b_NM_readPart_0 hL ha ?_)
  rw [pk_sub hp]
  refine pk_lt (e - p) 2 (fun z => no (by simp only [np, if_pos (show e - p < 2 ∨ ¬ m (p + 1) = 61 from Or.inl z)])) (fun z => ⟨2, 153, rfl, s0_2, ?_⟩)
  rw [nI_1, nI_2]
  refine ⟨pk_in (p + 1) 153 (by omega), ?_⟩
  have h1 := hm (p + 1) (by omega)
  have h0 := hm p (by omega)
  have hb1 := h1.2
  rw [pk_cl (p + 1), pk_cl p, h1.1, h0.1]
  refine pk_eq (m (p + 1)) 61 (fun z1 => ⟨pk_in p 153 (by omega), _, c_SX_typeOf hL h0.2, ?_⟩) (fun z1 => no (by simp only [np, if_pos (show e - p < 2 ∨ ¬ m (p + 1) = 61 from Or.inr z1)]))
  have hnp0 : np m p e = (ty (m p)).bind fun t => if 1 ≤ t ∧ t ≤ 3 then (sc m e 200 (p + 2) []).bind fun x => if x.1.length ≤ 6 then (po t x.1).map (fun q => (t, x.1, q, x.2)) else none else none := by
    simp only [np]
    rw [if_neg (by omega)]
  rintro w I1 _ _ ⟨rfl, rfl, rfl, rfl⟩
  cases hty : ty (m p) with
  | none =>
    have hn := no (by rw [hnp0, hty]; rfl)
    exact ⟨fun c => absurd c (by decide), fun _ => ⟨fun c => absurd c (by decide), fun _ => ⟨fun c => absurd c (by decide), fun _ => hn⟩⟩⟩
  | some t =>
    have ht5 : t < 5 := by
      have := List.findIdx?_eq_some_iff_findIdx_eq.mp hty
      exact this.1
    -- the walk for a type that names
    have go : 1 ≤ t ∧ t ≤ 3 → G_NM_readPart l V (Qp m p e a i I J P) 55 [(0, xq (some a)), (1, xq (some 2)), (2, xi (nI p)), (3, xi (nI e)), (4, xi (nI i)), (5, xi (nI t)), (6, xj 0), (8, xi (nI (p + 2)))] [] I J P := by
      intro ht
      have hnp : np m p e = (sc m e 200 (p + 2) []).bind fun x => if x.1.length ≤ 6 then (po t x.1).map (fun q => (t, x.1, q, x.2)) else none := by
        rw [hnp0, hty]
        simp only [Option.bind_some]
        rw [if_pos ht]
      have fin : ∀ (k : Nat) (acc : List Nat), k ≤ e → acc.length ≤ 6 → by8 acc → sc m e 200 (p + 2) [] = some (acc, k) → G_NM_readPart l V (Qp m p e a i I J P) 140 [(0, xq (some a)), (1, xq (some 2)), (2, xi (nI p)), (3, xi (nI e)), (4, xi (nI i)), (5, xi (nI t)), (6, xj (pkd acc)), (8, xi (nI k))] [] I J P := by
        intro k acc hk hl hb hsc
        refine b_NM_readPart_140 hL ha ⟨pk_in i 3 hi, pk_in i 3 hi, ?_⟩
        rw [pk_cl i]
        refine ⟨_, c_SX_plainOf hL hl hb ht5, ?_⟩
        rintro w I1 _ _ ⟨rfl, rfl, rfl, rfl⟩
        refine ⟨pk_in i 3 hi, pk_in i 3 hi, ?_⟩
        rw [lg_cmp_eq]
        have fI : ∀ b k, ¬ (b = a + 1 ∧ k = i) → xu I (a + 1) i (nI t) b k = I b k := fun b k hb => xu_other hb
        have fJ : ∀ (v : Int64) b k, ¬ (b = a + 2 ∧ k = i) → ¬ (b = a + 3 ∧ k = i) → xu (xu J (a + 2) i (pkd acc)) (a + 3) i v b k = J b k := fun v b k h2 h3 => (xu_other h3).trans (xu_other h2)
        cases hpo : po t acc with
        | none =>
          refine ⟨fun c => absurd rfl c, fun _ => ⟨rfl, fI, fJ _, ?_⟩⟩
          have hn : np m p e = none := by rw [hnp, hsc]; simp [hl, hpo]
          rw [hn]
        | some q =>
          have hq := po_ok hl hb hpo
          refine ⟨fun _ => ⟨rfl, fI, fJ _, ?_⟩, fun c => absurd c (pkd_m1 hq.1 hq.2)⟩
          have hn : np m p e = some (t, acc, q, k) := by rw [hnp, hsc]; simp [hl, hpo]
          rw [hn]
          exact ⟨rfl, xu_at, (xu_other (by omega)).trans xu_at, xu_at⟩
      have loop : ∀ (n k : Nat) (acc : List Nat), e - k < n → k ≤ e → acc.length ≤ 6 → by8 acc → sc m e 200 (p + 2) [] = sc m e n k acc → G_NM_readPart l V (Qp m p e a i I J P) 55 [(0, xq (some a)), (1, xq (some 2)), (2, xi (nI p)), (3, xi (nI e)), (4, xi (nI i)), (5, xi (nI t)), (6, xj (pkd acc)), (8, xi (nI k))] [] I J P := by
        intro n
        induction n with
        | zero => intro k acc h; omega
        | succ n ih =>
          intro k acc hn hk hl hb hsc
          rw [sc_succ m e n k acc] at hsc
          -- one byte more
          have app : ∀ k', k' < e → e - (k' + 1) < n → sc m e 200 (p + 2) [] = sc m e n (k' + 1) (acc ++ [m k']) → G_NM_readPart l V (Qp m p e a i I J P) 111 [(0, xq (some a)), (1, xq (some 2)), (2, xi (nI p)), (3, xi (nI e)), (4, xi (nI i)), (5, xi (nI t)), (6, xj (pkd acc)), (8, xi (nI k'))] [] I J P := by
            intro k' hk' hn' hs'
            refine b_NM_readPart_111 hL ha ⟨_, c_PK_sizeOf hL hl hb, ?_⟩
            rintro w I1 _ _ ⟨rfl, rfl, rfl, rfl⟩
            refine (pk_eq acc.length 6 (fun h6 => no ?_) (fun h6 => ⟨2, 153, rfl, s0_2, pk_in k' 153 (by omega), ?_⟩)).symm
            · rw [hnp, hs']
              cases hx : sc m e n (k' + 1) (acc ++ [m k']) with
              | none => rfl
              | some x =>
                have := sc_len m e _ _ _ _ hx
                simp at this
                simp only [Option.bind_some]
                rw [if_neg (by omega)]
            · rw [pk_cl k', (hm k' hk').1, nI_1]
              refine ⟨_, c_PK_append hL (by omega) hb (hbb k' hk'), ?_⟩
              rintro w I1 _ _ ⟨rfl, rfl, rfl, rfl⟩
              exact ih (k' + 1) (acc ++ [m k']) hn' (by omega) (by simp; omega) (by8_app hb (fun x hx => by simp at hx; rw [hx]; exact hbb k' hk')) hs'
          refine b_NM_readPart_55 hL ha ?_
          refine pk_le e k (fun h1 => fin k acc hk hl hb (by rw [hsc, if_pos h1])) (fun h1 => ⟨2, 153, rfl, s0_2, pk_in k 153 (by omega), ?_⟩)
          rw [if_neg (by omega)] at hsc
          rw [pk_cl k, (hm k (by omega)).1, nI_1]
          have hk6 := hbb k (by omega)
          refine pk_eq (m k) 44 (fun h2 => fin k acc hk hl hb (by rw [hsc, if_pos h2])) (fun h2 => ⟨pk_in k 153 (by omega), ?_⟩)
          rw [if_neg h2] at hsc
          refine (pk_eq (m k) 92 (fun h3 => ?_) (fun h3 => ⟨pk_in k 153 (by omega), ?_⟩)).symm
          · rw [if_pos h3] at hsc
            refine pk_eq (k + 1) e (fun h4 => no (by rw [hnp, hsc, if_pos h4]; rfl)) (fun h4 => ⟨pk_in (k + 1) 153 (by omega), ?_⟩)
            rw [if_neg h4] at hsc
            rw [pk_cl (k + 1), (hm (k + 1) (by omega)).1]
            refine ⟨_, c_NM_isMarked hL (hbb (k + 1) (by omega)), ?_⟩
            rintro w I1 _ _ ⟨rfl, rfl, rfl, rfl⟩
            by_cases h5 : mkd (m (k + 1)) = true
            · rw [if_pos h5] at hsc ⊢
              exact ⟨fun _ => app (k + 1) (by omega) (by omega) hsc, fun c => absurd c (by decide)⟩
            · rw [if_neg h5] at hsc ⊢
              exact ⟨fun c => absurd rfl c, fun _ => no (by rw [hnp, hsc]; rfl)⟩
          · rw [if_neg h3] at hsc
            refine (pk_eq (m k) 61 (fun h4 => no (by rw [hnp, hsc, if_pos h4]; rfl)) (fun h4 => ?_)).symm
            rw [if_neg h4] at hsc
            exact app k (by omega) (by omega) hsc
      exact loop 200 (p + 2) [] (by omega) (by omega) (by simp) (fun x hx => by cases hx) rfl
    have hbad : ¬ (1 ≤ t ∧ t ≤ 3) → Qp m p e a i I J P (-1) I J P := fun h => no (by rw [hnp0, hty]; simp only [Option.bind_some]; rw [if_neg h])
    exact pk_eq t 1 (fun c => go (by omega)) (fun c1 => pk_eq t 2 (fun c => go (by omega)) (fun c2 => pk_eq t 3 (fun c => go (by omega)) (fun c3 => hbad (by omega))))

/-! the class's filters -/
section XFL
variable {l : Launch} {V : xV} {I : xIt} {J : xJt} {P : xPt} {m : Nat → Nat} {N : List Fi} {A : Nat → List Vl}
theorem nb_shift : ∀ i, i < 5 → nI (8 * (5 - i)) + -8 = nI (8 * (5 - (i + 1))) := by decide
set_option maxRecDepth 20000 in
theorem c_PK_numberOf {L : List Nat} (hL : xL P) (hl : L.length ≤ 6) (hb : by8 L) (h0 : ∀ c ∈ L, c ≠ 0) : xMet l V y_PK_numberOf 1 0 0 [xj (pkd L)] xS0 I J P (xPi (fun r I' J' P' => I = I' ∧ J = J' ∧ P = P' ∧ r = nm L)) := by
  have loop : ∀ (k i : Nat) (v4 : Int32), i + k = 6 → (k = 0 → v4 < 0) → (0 < k → v4 = nI (8 * (5 - i))) → G_PK_numberOf l V (fun r I' J' P' => I = I' ∧ J = J' ∧ P = P' ∧ r = nm L) 8 [(0, xj (pkd L)), (2, xi (nms (L.take (i - (6 - L.length))))), (3, xi (nmv (L.take (i - (6 - L.length))))), (4, xi v4)] [] I J P := by
    intro k
    induction k with
    | zero =>
      intro i v4 hi h1 h2
      refine b_PK_numberOf_8 hL ⟨fun _ => ⟨rfl, rfl, rfl, ?_⟩, fun z => absurd (h1 rfl) z⟩
      rw [List.take_of_length_le (by omega)]
      rfl
    | succ k ih =>
      intro i v4 hi h1 h2
      have h4 := h2 (by omega)
      subst h4
      have h52 := pl_52 hl hb
      have hc : ((((pkd L).toUInt64 >>> ((nI (8 * (5 - i))).toInt64.toUInt64 &&& Int64.toUInt64 63)).toInt64).toInt32) &&& 255 = nI (pb L i) := by
        unfold pkd
        rw [wb_shr (by omega) (by omega), lN_i, nI_255]
        rfl
      have hpb : pb L i < 256 := Nat.mod_lt _ (by decide)
      have next : ∀ (a b : Int32), a = nms (L.take (i + 1 - (6 - L.length))) → b = nmv (L.take (i + 1 - (6 - L.length))) → G_PK_numberOf l V (fun r I' J' P' => I = I' ∧ J = J' ∧ P = P' ∧ r = nm L) 8 [(0, xj (pkd L)), (2, xi a), (3, xi b), (4, xi (nI (8 * (5 - i)) + -8))] [] I J P := by
        rintro _ _ rfl rfl
        refine ih (i + 1) _ (by omega) (fun hk => ?_) (fun hk => nb_shift i (by omega))
        have : i = 5 := by omega
        subst this
        decide
      refine b_PK_numberOf_8 hL ⟨fun z => absurd z (nI_pos (by omega)), fun _ => ?_⟩
      rw [hc]
      by_cases hlo : i < 6 - L.length
      · have hp0 := pb_lo hl hb hlo
        rw [hp0]
        refine ⟨fun _ => ⟨fun _ => next _ _ ?_ ?_, fun z => absurd rfl z⟩, fun z => absurd z (by decide)⟩ <;> rw [show i + 1 - (6 - L.length) = i - (6 - L.length) by omega]
      · have hg := pb_hi hl hb (i := i) (by omega) (by omega)
        have hne := h0 _ (List.mem_of_getElem? hg)
        have htk : L.take (i + 1 - (6 - L.length)) = L.take (i - (6 - L.length)) ++ [pb L i] := by rw [show i + 1 - (6 - L.length) = i - (6 - L.length) + 1 by omega, List.take_succ, hg]; rfl
        rw [htk] at next
        refine (pk_eq (pb L i) 45 (fun z => next _ _ ?_ ?_) (fun z => (pk_eq (pb L i) 0 (fun z2 => absurd z2 hne) (fun _ => next _ _ ?_ ?_)))).symm
        · rw [nms_app, if_pos z]
        · rw [nmv_app, if_pos z]
        · rw [nms_app, if_neg z]
        · rw [nmv_app, if_neg z]
  have h := loop 6 0 40 rfl (fun z => by omega) (fun _ => rfl)
  rw [show 0 - (6 - L.length) = 0 by omega, List.take_zero] at h
  exact e_PK_numberOf (b_PK_numberOf_0 hL h)
set_option maxRecDepth 20000 in
theorem c_FL_orderTruth {k a : Nat} {p : List Nat} {R : List Vl} (hL : xL P) (ha : xS0[a]? = some (6, 0)) (hk : k < 256) (hp : p.length ≤ 6 ∧ by8 p ∧ ∀ c ∈ p, c ≠ 0) (hR : xRw I J a (pkr R)) (hv : ∀ v ∈ R, v.2.length ≤ 6 ∧ by8 v.2 ∧ ∀ c ∈ v.2, c ≠ 0) : xMet l V y_FL_orderTruth 2 0 0 [xi (nI k), xj (pkd p), xq (some a)] xS0 I J P (xPi (fun r I' J' P' => I = I' ∧ J = J' ∧ P = P' ∧ r = nI (ordv k p R))) := by
  have hcap := vr_cap ha
  have hlen := hR.2.1
  rw [pkr_len] at hlen
  have loop : ∀ (n j : Nat), j + n = R.length → ordv k p R = ordv k p (R.drop j) → G_FL_orderTruth l V (fun r I' J' P' => I = I' ∧ J = J' ∧ P = P' ∧ r = nI (ordv k p R)) 9 [(0, xi (nI k)), (1, xj (pkd p)), (3, xq (some a)), (4, xi (nm p)), (5, xi (nI j))] [] I J P := by
    intro n
    induction n with
    | zero =>
      intro j hj hx
      refine b_FL_orderTruth_9 hL ⟨a, rfl, ha, ?_⟩
      refine pk_le R.length j (fun _ => ⟨rfl, rfl, rfl, ?_⟩) (fun z => by omega) (hR.1.trans (by rw [pkr_len]))
      rw [hx, List.drop_eq_nil_of_le (by omega)]
      rfl
    | succ n ih =>
      intro j hj hx
      have hjl : j < R.length := by omega
      have hg := (hR.2.2 j _ (pkr_get (List.getElem?_eq_getElem hjl))).2
      have hvj := hv R[j] (List.getElem_mem hjl)
      have hor : ordv k p (R.drop j) = if (if k = 165 then !decide (nm R[j].2 < nm p) else !decide (nm p < nm R[j].2)) = true then 2 else ordv k p (R.drop (j + 1)) := by
        rw [List.drop_eq_getElem_cons hjl]
        unfold ordv
        rw [List.any_cons]
        by_cases hc : (if k = 165 then !decide (nm R[j].2 < nm p) else !decide (nm p < nm R[j].2)) = true
        · rw [if_pos hc, hc, Bool.true_or, if_pos rfl]
        · rw [if_neg hc]
          rw [Bool.not_eq_true] at hc
          rw [hc, Bool.false_or]
      refine b_FL_orderTruth_9 hL ⟨a, rfl, ha, ?_⟩
      refine pk_le R.length j (fun z => by omega) (fun _ => ⟨pk_in j _ (by omega), ?_⟩) (hR.1.trans (by rw [pkr_len]))
      rw [pk_cl j, hg, nI_1]
      refine ⟨_, c_PK_numberOf hL hvj.1 hvj.2.1 hvj.2.2, ?_⟩
      rintro w I1 _ _ ⟨rfl, rfl, rfl, rfl⟩
      refine (pk_eq k 165 (fun z => ?_) (fun z => ?_)).symm
      · simp only [if_pos z] at hor
        by_cases hc : nm R[j].2 < nm p
        · exact ⟨fun _ => ih (j + 1) (by omega) (by rw [hx, hor]; simp [hc]), fun z => absurd hc z⟩
        · exact ⟨fun z => absurd z hc, fun _ => ⟨rfl, rfl, rfl, by rw [hx, hor]; simp [hc]; rfl⟩⟩
      · simp only [if_neg z] at hor
        by_cases hc : nm p < nm R[j].2
        · exact ⟨fun _ => ih (j + 1) (by omega) (by rw [hx, hor]; simp [hc]), fun z => absurd hc z⟩
        · exact ⟨fun z => absurd z hc, fun _ => ⟨rfl, rfl, rfl, by rw [hx, hor]; simp [hc]; rfl⟩⟩
  refine e_FL_orderTruth (b_FL_orderTruth_0 hL ⟨_, c_PK_numberOf hL hp.1 hp.2.1 hp.2.2, ?_⟩)
  rintro w I1 _ _ ⟨rfl, rfl, rfl, rfl⟩
  exact loop R.length 0 (by omega) (by simp)
set_option maxRecDepth 20000 in
theorem c_FL_holdsFilters {k : Nat} (hL : xL P) (hk : k < 256) : xMet l V y_FL_holdsFilters 1 0 0 [xi (nI k)] xS0 I J P (xPi (fun r I' J' P' => I = I' ∧ J = J' ∧ P = P' ∧ r = if hld k = true then 1 else 0)) := by
  refine e_FL_holdsFilters (b_FL_holdsFilters_0 hL (pk_eq k 160 (fun z => ⟨rfl, rfl, rfl, by simp [hld, z]⟩) (fun z => pk_eq k 161 (fun z2 => ⟨rfl, rfl, rfl, by simp [hld, z2]⟩) (fun z2 => (pk_eq k 162 (fun z3 => ⟨rfl, rfl, rfl, by simp [hld, z3]⟩) (fun z3 => ⟨rfl, rfl, rfl, by simp [hld, z, z2, z3]⟩)).symm))))
set_option maxRecDepth 20000 in
theorem c_FL_truthOfNone {k : Nat} (hL : xL P) (hk : k < 256) : xMet l V y_FL_truthOfNone 1 0 0 [xi (nI k)] xS0 I J P (xPi (fun r I' J' P' => I = I' ∧ J = J' ∧ P = P' ∧ r = nI (if k = 160 then 2 else 0))) := by
  refine e_FL_truthOfNone (b_FL_truthOfNone_0 hL (pk_eq k 160 (fun z => ⟨rfl, rfl, rfl, by rw [if_pos z]; rfl⟩) (fun z => ⟨rfl, rfl, rfl, by rw [if_neg z]; rfl⟩)).symm)
theorem jo_max : ∀ a, a ≤ 2 → ∀ b, b ≤ 2 → (if nI a < nI b then nI b else nI a) = nI (max a b) ∧ (if nI b < nI a then nI b else nI a) = nI (min a b) ∧ (2 : Int32) - nI b = nI (2 - b) := by decide
set_option maxRecDepth 20000 in
theorem c_FL_joined {k a b : Nat} (hL : xL P) (hk : k < 256) (ha : a ≤ 2) (hb : b ≤ 2) : xMet l V y_FL_joined 2 0 0 [xi (nI k), xi (nI a), xi (nI b)] xS0 I J P (xPi (fun r I' J' P' => I = I' ∧ J = J' ∧ P = P' ∧ r = nI (jo k a b))) := by
  have h := jo_max a ha b hb
  refine e_FL_joined (b_FL_joined_0 hL ?_)
  rw [h.1, h.2.1, h.2.2]
  refine (pk_eq k 162 (fun z => ⟨rfl, rfl, rfl, by rw [jo, if_pos z]⟩) (fun z => (pk_eq k 160 (fun z2 => ⟨rfl, rfl, rfl, by rw [jo, if_neg z, if_pos z2]⟩) (fun z2 => ⟨rfl, rfl, rfl, by rw [jo, if_neg z, if_neg z2]⟩)).symm)).symm
/-- a value of the syntax of i has no byte 0 -/
theorem isn_no0 {L : List Nat} (h : isn L = true) : ∀ c ∈ L, c ≠ 0 := by
  intro c hc h0
  unfold isn at h
  simp only [Bool.and_eq_true] at h
  have hall := h.2.2.1
  rw [List.all_eq_true] at hall
  subst h0
  by_cases hf : L[0]? = some 45
  · cases L with
    | nil => cases hc
    | cons x u =>
      simp at hf
      subst hf
      simp [fst45] at hall
      rcases List.mem_cons.mp hc with h | h
      · cases h
      · have := hall 0 h; omega
  · have h2 : fst45 L = 0 := by simp [fst45, hf]
    rw [h2, List.drop_zero] at hall
    have := hall 0 hc
    simp at this
theorem vk3_no0 {v : Vl} (h : vk 3 v) : v.2.length ≤ 6 ∧ by8 v.2 ∧ ∀ c ∈ v.2, c ≠ 0 := by
  have h1 := vk_pl h
  refine ⟨h1.1, h1.2, ?_⟩
  have h2 := h.2.2
  unfold po at h2
  by_cases hn : v.1 = []
  · rw [if_pos hn] at h2; cases h2
  rw [if_neg hn] at h2
  simp only at h2
  by_cases hi : isn v.1 = true
  · rw [if_pos hi] at h2
    rw [← Option.some.inj h2]
    exact isn_no0 hi
  · rw [if_neg hi] at h2; cases h2
/-- the leaves' types and values as they stand in the class's rows -/
def xLv (m : Nat → Nat) (I : xIt) (J : xJt) (N : List Fi) : Prop := ∀ (i : Nat) (x : Fi), N[i]? = some x → hld x.1 = false → I 10 i = tyo (lty m x) ∧ (x.1 ≠ 135 → J 11 i = pko (lpl m x))
theorem lpl_ok {x : Fi} {t : Nat} {p : List Nat} {e : Nat} (hb : ∀ j, j < e → m j < 256) (hq : ∀ q ∈ tx m x, q.1 ≤ q.2 ∧ q.2 ≤ e) (ht : lty m x = some t) (hp : lpl m x = some p) : ∃ g, vk t (g, p) := by
  unfold lpl at hp
  split at hp
  · rename_i B C htx
    rw [ht] at hp
    obtain ⟨v, hv, rfl⟩ := Option.map_eq_some_iff.mp hp
    have hC := hq C (by rw [htx]; simp)
    exact ⟨v.1, val_vk (fun j hj => hb j (by omega)) hv⟩
  · cases hp
theorem lty_5 {x : Fi} {t : Nat} (h : lty m x = some t) : t < 5 := by
  unfold lty at h
  split at h
  · exact tyx_5 h
  · cases h
set_option maxRecDepth 20000 in
theorem c_FL_leafTruth {i y e : Nat} {x : Fi} {nt : Nat} {nv : Int64} {ab : Option Nat} (hL : xL P) (hy : xS0[y]? = some (5, 0)) (hE : xEn I J P y (fun t => pkr (A t)) nt nv ab) (hA : ∀ t, t < 5 → ∀ v ∈ A t, vk t v) (hi : N[i]? = some x) (hn : N.length ≤ 12) (hk : I 7 i = nI x.1) (hx : x.1 < 256) (hh : hld x.1 = false) (hlv : xLv m I J N) (hb : ∀ j, j < e → m j < 256) (hq : ∀ q ∈ tx m x, q.1 ≤ q.2 ∧ q.2 ≤ e) : xMet l V y_FL_leafTruth 3 0 0 [xq (some 6), xi (nI i), xq (some y)] xS0 I J P (xPi (fun r I' J' P' => I = I' ∧ J = J' ∧ P = P' ∧ r = nI (lv m A x))) := by
  have hil := (List.getElem?_eq_some_iff.mp hi).1
  have h := hlv i x hi hh
  refine e_FL_leafTruth (b_FL_leafTruth_0 hL ⟨pk_in i 12 (by omega), ?_⟩)
  rw [pk_cl i, hk, h.1]
  cases ht : lty m x with
  | none =>
    refine ⟨fun _ => ⟨rfl, rfl, rfl, ?_⟩, fun z => absurd (by decide) z⟩
    rw [lv, ht]
    rfl
  | some t =>
    have ht5 := lty_5 ht
    have hr := en_row hL hy ht5
    have hR := hE.1 t ht5
    rw [show tyo (some t) = nI t from rfl, pk_cl t]
    refine ⟨fun z => absurd z (nI_pos (by omega)), fun _ => pk_lt t 5 (fun _ => ⟨y, rfl, hy, pk_in t 5 ht5, pk_in i 12 (by omega), ?_⟩) (fun z => by omega)⟩
    rw [hr.1]
    refine (pk_eq x.1 135 (fun z => ⟨_, rfl, hr.2, ?_⟩) (fun z => ⟨pk_in i 12 (by omega), ?_⟩)).symm
    · have hlv' : lv m A x = if 0 < (A t).length then 2 else 0 := by rw [lv, ht]; simp only [if_pos z]
      rw [hlv']
      refine pk_le (A t).length 0 (fun z2 => ⟨rfl, rfl, rfl, by rw [if_neg (by omega)]; rfl⟩) (fun z2 => ⟨rfl, rfl, rfl, by rw [if_pos (by omega)]; rfl⟩) (hR.1.trans (by rw [pkr_len])) rfl (by have := hR.2.1; rw [pkr_len] at this; have := (vr_cap hr.2).2.1; omega) (by omega)
    · rw [h.2 z, lg_cmp_eq]
      cases hp : lpl m x with
      | none =>
        have hlv' : lv m A x = 1 := by rw [lv, ht]; simp only [if_neg z, hp]
        exact ⟨fun z2 => absurd rfl z2, fun _ => ⟨rfl, rfl, rfl, by rw [hlv']; rfl⟩⟩
      | some p =>
        obtain ⟨g, hvk⟩ := lpl_ok hb hq ht hp
        have hpl := vk_pl hvk
        have hlv' : lv m A x = if x.1 = 163 then (if hs (A t) p = true then 2 else 0) else if t = 3 then ordv x.1 p (A 3) else 1 := by rw [lv, ht]; simp only [if_neg z, hp]
        rw [hlv']
        refine ⟨fun _ => ⟨pk_in i 12 (by omega), ?_⟩, fun z2 => absurd z2 (pkd_m1 hpl.1 hpl.2)⟩
        refine (pk_eq x.1 163 (fun z3 => ⟨pk_in i 12 (by omega), _, rfl, hr.2, _, c_VR_has hL hr.2 hR, ?_⟩) (fun z3 => ?_)).symm
        · rw [if_neg z3]
          refine (pk_eq t 3 (fun z4 => ?_) (fun z4 => ⟨rfl, rfl, rfl, by rw [if_neg z4]; rfl⟩)).symm
          subst z4
          refine ⟨pk_in i 12 (by omega), pk_in i 12 (by omega), _, c_FL_orderTruth hL hr.2 hx (vk3_no0 hvk) hR (fun v hv => vk3_no0 (hA 3 (by omega) v hv)), ?_⟩
          rintro w I1 _ _ ⟨rfl, rfl, rfl, rfl⟩
          exact ⟨rfl, rfl, rfl, by rw [if_pos rfl]⟩
        · rw [if_pos z3]
          rintro w I1 _ _ ⟨rfl, rfl, rfl, rfl⟩
          rw [show ((fun t => pkr (A t)) t).any (fun y => y.2 == pko (some p)) = hs (A t) p from pkr_any hpl (hA t ht5)]
          by_cases hc : hs (A t) p = true
          · rw [if_pos hc, if_pos hc]
            exact ⟨fun z => absurd z (by decide), fun _ => ⟨rfl, rfl, rfl, rfl⟩⟩
          · rw [if_neg hc, if_neg hc]
            exact ⟨fun _ => ⟨rfl, rfl, rfl, rfl⟩, fun z => absurd rfl z⟩
theorem bw_2 {τ : Nat → Nat} (h : ∀ i, τ i ≤ 2) (n : Nat) : ∀ i, stp N τ n i ≤ 2 := by
  intro i
  unfold stp
  cases hx : N[n]? with
  | none => exact h i
  | some x =>
    by_cases h0 : x.2.1 = 0
    · simp only [if_pos h0]; exact h i
    · simp only [if_neg h0]
      by_cases hi : i = x.2.1 - 1
      · rw [if_pos hi]; exact jo_2 (h i) (h n)
      · rw [if_neg hi]; exact h i
set_option maxRecDepth 20000 in
theorem c_FL_truthFor {y e : Nat} {nt : Nat} {nv : Int64} {ab : Option Nat} (hL : xL P) (hy : xS0[y]? = some (5, 0)) (hE : xEn I J P y (fun t => pkr (A t)) nt nv ab) (hA : ∀ t, t < 5 → ∀ v ∈ A t, vk t v) (hn : N.length ≤ 12) (hn1 : 1 ≤ N.length) (h66 : I 6 6 = nI N.length) (hK : ∀ (i : Nat) (x : Fi), N[i]? = some x → I 7 i = nI x.1 ∧ I 8 i = nI x.2.1 - 1 ∧ x.1 < 256 ∧ x.2.1 ≤ i ∧ ∀ q ∈ tx m x, q.1 ≤ q.2 ∧ q.2 ≤ e) (hlv : xLv m I J N) (hb : ∀ j, j < e → m j < 256) : xMet l V y_FL_truthFor 4 0 0 [xq (some 6), xq (some y)] xS0 I J P (xPi (fun r I' J' P' => J = J' ∧ P = P' ∧ (∀ b k, b ≠ 12 → I' b k = I b k) ∧ r = nI (bw N N.length (tau m A N) 0))) := by
  have h23 := ent0 y (x_lt0 hy) hy
  have back : ∀ (n : Nat) (τ : Nat → Nat) (I1 : xIt), n < 12 → n < N.length → (∀ b k, b ≠ 12 → I1 b k = I b k) → (∀ i, i < N.length → I1 12 i = nI (τ i)) → (∀ i, τ i ≤ 2) → bw N N.length (tau m A N) = bw N (n + 1) τ → G_FL_truthFor l V (fun r I' J' P' => J = J' ∧ P = P' ∧ (∀ b k, b ≠ 12 → I' b k = I b k) ∧ r = nI (bw N N.length (tau m A N) 0)) 59 [(0, xq (some 6)), (1, xq (some y)), (2, xi (nI n))] [] I1 J P := by
    intro n
    induction n with
    | zero =>
      intro τ I1 h12 hnl hI ht h2 hx
      refine b_FL_truthFor_59 hL (pk_le 0 0 (fun _ => ⟨rfl, rfl, hI, ?_⟩) (fun z => by omega))
      rw [ht 0 (by omega), hx, bw, bw]
      congr 1
      obtain ⟨x, hx0⟩ : ∃ x, N[0]? = some x := ⟨_, List.getElem?_eq_getElem (by omega)⟩
      have := (hK 0 x hx0).2.2.2.1
      simp [stp, hx0, show x.2.1 = 0 by omega]
    | succ n ih =>
      intro τ I1 h12 hnl hI ht h2 hx
      obtain ⟨x, hx0⟩ : ∃ x, N[n + 1]? = some x := ⟨_, List.getElem?_eq_getElem hnl⟩
      have hk := hK (n + 1) x hx0
      have h8 : I1 8 (n + 1) = nI x.2.1 - 1 := (hI 8 (n + 1) (by decide)).trans hk.2.1
      rw [bw] at hx
      have hm1 : nI (n + 1) + -1 = nI n := pk_m1 n
      refine b_FL_truthFor_59 hL (pk_le (n + 1) 0 (fun z => by omega) (fun _ => ⟨pk_in (n + 1) 12 h12, ?_⟩))
      rw [pk_cl (n + 1), h8, hm1]
      by_cases hp0 : x.2.1 = 0
      · have hst : stp N τ (n + 1) = τ := by simp [stp, hx0, hp0]
        rw [hst] at hx
        refine ⟨fun _ => ih τ I1 (by omega) (by omega) hI ht h2 hx, fun z => absurd (by rw [hp0]; decide) z⟩
      · have hp1 : nI x.2.1 - 1 = nI (x.2.1 - 1) := pk_sub (b := 1) (by omega)
        rw [hp1, pk_cl (x.2.1 - 1)]
        obtain ⟨y2, hy2⟩ : ∃ y2, N[x.2.1 - 1]? = some y2 := ⟨_, List.getElem?_eq_getElem (by omega)⟩
        have hk2 := hK _ y2 hy2
        refine ⟨fun z => absurd z (nI_pos (by omega)), fun _ => pk_le (n + 1) (x.2.1 - 1) (fun z => by omega) (fun _ => ⟨pk_in (x.2.1 - 1) 12 (by omega), pk_in (x.2.1 - 1) 12 (by omega), pk_in (n + 1) 12 h12, ?_⟩)⟩
        rw [hI 7 _ (by decide), hk2.1, ht (x.2.1 - 1) (by omega), ht (n + 1) hnl]
        refine ⟨_, c_FL_joined hL hk2.2.2.1 (h2 _) (h2 _), ?_⟩
        rintro w I3 _ _ ⟨rfl, rfl, rfl, rfl⟩
        refine ⟨pk_in (x.2.1 - 1) 12 (by omega), ih (stp N τ (n + 1)) _ (by omega) (by omega) (fun b k hb => (xu_other (by omega)).trans (hI b k hb)) (fun i hi => ?_) (bw_2 h2 _) hx⟩
        have hst : stp N τ (n + 1) i = if i = x.2.1 - 1 then jo (kd N i) (τ i) (τ (n + 1)) else τ i := by simp [stp, hx0, hp0]
        rw [hst]
        by_cases hij : i = x.2.1 - 1
        · subst hij
          rw [xu_at, if_pos rfl]
          congr 2
          simp [kd, hy2]
        · rw [xu_other (by omega), if_neg hij, ht i hi]
  have loop : ∀ (k j : Nat) (I1 : xIt), j + k = N.length → (∀ b k, b ≠ 12 → I1 b k = I b k) → (∀ i, i < j → I1 12 i = nI (tau m A N i)) → G_FL_truthFor l V (fun r I' J' P' => J = J' ∧ P = P' ∧ (∀ b k, b ≠ 12 → I' b k = I b k) ∧ r = nI (bw N N.length (tau m A N) 0)) 2 [(0, xq (some 6)), (1, xq (some y)), (2, xi (nI j))] [] I1 J P := by
    intro k
    induction k with
    | zero =>
      intro j I1 hj hI ht
      have h6 : I1 6 6 = nI N.length := (hI 6 6 (by decide)).trans h66
      refine b_FL_truthFor_2 hL (pk_le N.length j (fun _ => ?_) (fun z => by omega) h6)
      rw [h6, show nI N.length - 1 = nI (N.length - 1) from pk_sub (b := 1) (by omega)]
      exact back (N.length - 1) (tau m A N) I1 (by omega) (by omega) hI (fun i hi => ht i (by omega)) (fun i => tau_2) (by rw [show N.length - 1 + 1 = N.length by omega])
    | succ k ih =>
      intro j I1 hj hI ht
      have h6 : I1 6 6 = nI N.length := (hI 6 6 (by decide)).trans h66
      obtain ⟨x, hx⟩ : ∃ x, N[j]? = some x := ⟨_, List.getElem?_eq_getElem (by omega)⟩
      have hk := hK j x hx
      have h7 : I1 7 j = nI x.1 := (hI 7 j (by decide)).trans hk.1
      have next : ∀ v, v = ini m A x → G_FL_truthFor l V (fun r I' J' P' => J = J' ∧ P = P' ∧ (∀ b k, b ≠ 12 → I' b k = I b k) ∧ r = nI (bw N N.length (tau m A N) 0)) 2 [(0, xq (some 6)), (1, xq (some y)), (2, xi (nI (j + 1)))] [] (xu I1 12 j (nI v)) J P := by
        rintro _ rfl
        refine ih (j + 1) _ (by omega) (fun b k hb => (xu_other (by omega)).trans (hI b k hb)) (fun i hi => ?_)
        by_cases hij : i = j
        · subst hij
          rw [xu_at]
          simp [tau, hx]
        · rw [xu_other (by omega), ht i (by omega)]
      refine b_FL_truthFor_2 hL (pk_le N.length j (fun z => by omega) (fun _ => ⟨pk_in j 12 (by omega), ?_⟩) h6)
      rw [pk_cl j, h7, nI_1]
      refine ⟨_, c_FL_holdsFilters hL hk.2.2.1, ?_⟩
      rintro w I3 _ _ ⟨rfl, rfl, rfl, rfl⟩
      by_cases hh : hld x.1 = true
      · rw [if_pos hh, h7]
        refine ⟨fun z => absurd z (by decide), fun _ => ⟨pk_in j 12 (by omega), _, c_FL_truthOfNone hL hk.2.2.1, ?_⟩⟩
        rintro w I3 _ _ ⟨rfl, rfl, rfl, rfl⟩
        refine ⟨pk_in j 12 (by omega), next _ ?_⟩
        unfold ini
        simp [hld] at hh
        by_cases h0 : x.1 = 160
        · simp [h0]
        · simp [h0, show x.1 = 161 ∨ x.1 = 162 by omega]
      · rw [if_neg hh]
        rw [Bool.not_eq_true] at hh
        refine ⟨fun _ => ⟨_, c_FL_leafTruth (m := m) (A := A) (N := N) hL hy (hE.far (fun b k h1 h2 => hI b k (by omega)) (fun _ _ _ _ => rfl) rfl) hA hx hn h7 hk.2.2.1 hh (fun i x hi hx => ⟨(hI 10 i (by decide)).trans (hlv i x hi hx).1, (hlv i x hi hx).2⟩) hb hk.2.2.2.2, ?_⟩, fun z => absurd rfl z⟩
        rintro w I3 _ _ ⟨rfl, rfl, rfl, rfl⟩
        refine ⟨pk_in j 12 (by omega), next _ ?_⟩
        unfold ini
        simp [hld] at hh
        rw [if_neg (by omega), if_neg (by omega)]
  exact e_FL_truthFor (b_FL_truthFor_0 hL (loop N.length 0 I (by omega) (fun _ _ _ => rfl) (fun i hi => by omega)))
set_option maxRecDepth 20000 in
theorem c_SX_plainOf_neg {v : Int64} (hL : xL P) : xMet l V y_SX_plainOf 3 0 0 [xi (-1), xj v] xS0 I J P (xPl (fun r I' J' P' => I = I' ∧ J = J' ∧ P = P' ∧ r = -1)) := by
  refine e_SX_plainOf (b_SX_plainOf_0 hL ⟨fun _ => ⟨rfl, rfl, rfl, rfl⟩, fun _ => ⟨fun _ => ⟨fun z => absurd z (by decide), fun z => absurd z (by decide), fun z => absurd z (by decide), fun z => absurd z (by decide), fun z => absurd z (by decide), fun _ _ _ _ _ => ⟨rfl, rfl, rfl, rfl⟩⟩, fun _ => ⟨rfl, rfl, rfl, rfl⟩⟩⟩)
set_option maxRecDepth 20000 in
theorem c_FL_readLeaves {e : Nat} {T0 : List (Nat × Nat)} (hL : xL P) (hm : xMs I 2 m e) (he : e ≤ 153) (hF : xFl m I T0 N) (hn : N.length ≤ 12) (hl : (T0 ++ N.flatMap (tx m)).length ≤ 75) (hK : ∀ (i : Nat) (x : Fi), N[i]? = some x → x.1 < 256 ∧ (∀ q ∈ tx m x, q.1 ≤ q.2 ∧ q.2 ≤ e) ∧ (hld x.1 = false → if x.1 = 135 then (tx m x).length = 1 else (tx m x).length = 2)) : xMet l V y_FL_readLeaves 4 0 0 [xq (some 6), xq (some 1)] xS0 I J P (xPv (fun I' J' P' => P = P' ∧ (∀ b k, b ≠ 10 → I' b k = I b k) ∧ (∀ b k, b ≠ 11 → J' b k = J b k) ∧ xLv m I' J' N)) := by
  have loop : ∀ (k j : Nat) (I1 : xIt) (J1 : xJt), j + k = N.length → (∀ b k, b ≠ 10 → I1 b k = I b k) → (∀ b k, b ≠ 11 → J1 b k = J b k) → (∀ (i : Nat) (x : Fi), i < j → N[i]? = some x → hld x.1 = false → I1 10 i = tyo (lty m x) ∧ (x.1 ≠ 135 → J1 11 i = pko (lpl m x))) → G_FL_readLeaves l V (fun I' J' P' => P = P' ∧ (∀ b k, b ≠ 10 → I' b k = I b k) ∧ (∀ b k, b ≠ 11 → J' b k = J b k) ∧ xLv m I' J' N) 2 [(0, xq (some 6)), (1, xq (some 1)), (2, xi (nI j))] [] I1 J1 P := by
    intro k
    induction k with
    | zero =>
      intro j I1 J1 hj hI hJ hd
      refine b_FL_readLeaves_2 hL (pk_le N.length j (fun _ => ⟨rfl, hI, hJ, fun i x hi hx => hd i x (by have := (List.getElem?_eq_some_iff.mp hi).1; omega) hi hx⟩) (fun z => by omega) ((hI 6 6 (by decide)).trans hF.1))
    | succ k ih =>
      intro j I1 J1 hj hI hJ hd
      have hjl : j < N.length := by omega
      obtain ⟨x, hx⟩ : ∃ x, N[j]? = some x := ⟨_, List.getElem?_eq_getElem hjl⟩
      have hk := hK j x hx
      have hf := hF.2.2 j x hx
      have h7 : I1 7 j = nI x.1 := (hI 7 j (by decide)).trans hf.1
      have h9 : I1 9 j = nI (T0 ++ (N.take j).flatMap (tx m)).length := (hI 9 j (by decide)).trans hf.2.2
      have next : ∀ (I2 : xIt) (J2 : xJt), (∀ b k, ¬ (b = 10 ∧ k = j) → I2 b k = I1 b k) → (∀ b k, ¬ (b = 11 ∧ k = j) → J2 b k = J1 b k) → (hld x.1 = false → I2 10 j = tyo (lty m x) ∧ (x.1 ≠ 135 → J2 11 j = pko (lpl m x))) → G_FL_readLeaves l V (fun I' J' P' => P = P' ∧ (∀ b k, b ≠ 10 → I' b k = I b k) ∧ (∀ b k, b ≠ 11 → J' b k = J b k) ∧ xLv m I' J' N) 2 [(0, xq (some 6)), (1, xq (some 1)), (2, xi (nI (j + 1)))] [] I2 J2 P := by
        intro I2 J2 h2 h3 h4
        refine ih (j + 1) I2 J2 (by omega) (fun b k hb => (h2 b k (by omega)).trans (hI b k hb)) (fun b k hb => (h3 b k (by omega)).trans (hJ b k hb)) (fun i y hi hy hh => ?_)
        by_cases hij : i = j
        · subst hij
          rw [hx] at hy
          cases hy
          exact h4 hh
        · have := hd i y (by omega) hy hh
          exact ⟨(h2 10 i (by omega)).trans this.1, fun h => (h3 11 i (by omega)).trans (this.2 h)⟩
      refine b_FL_readLeaves_2 hL (pk_le N.length j (fun z => by omega) (fun _ => ⟨pk_in j 12 (by omega), pk_in j 12 (by omega), pk_in j 12 (by omega), ?_⟩) ((hI 6 6 (by decide)).trans hF.1))
      rw [pk_cl j, h7, nI_1]
      refine ⟨_, c_FL_holdsFilters hL hk.1, ?_⟩
      rintro w I3 _ _ ⟨rfl, rfl, rfl, rfl⟩
      by_cases hh : hld x.1 = true
      · rw [if_pos hh]
        exact ⟨fun _ => next _ _ (fun b k hb => xu_other hb) (fun b k hb => xu_other hb) (fun z => by rw [hh] at z; cases z), fun z => absurd z (by decide)⟩
      · rw [if_neg hh]
        rw [Bool.not_eq_true] at hh
        refine ⟨fun z => absurd rfl z, fun _ => ⟨pk_in j 12 (by omega), 1, rfl, s0_1, ?_⟩⟩
        have hlen := hk.2.2 hh
        have hT1 : xTx (xu I1 10 j (-1)) (T0 ++ N.flatMap (tx m)) := ⟨(xu_other (by omega)).trans ((hI 1 9 (by decide)).trans hF.2.1.1), fun i q hi => ⟨(xu_other (by omega)).trans ((hI 3 i (by decide)).trans (hF.2.1.2 i q hi).1), (xu_other (by omega)).trans ((hI 4 i (by decide)).trans (hF.2.1.2 i q hi).2)⟩⟩
        have hm1 : xMs (xu I1 10 j (-1)) 2 m e := fun i hi => ⟨(xu_other (by omega)).trans ((hI 2 i (by decide)).trans (hm i hi).1), (hm i hi).2⟩
        have hsp : N.flatMap (tx m) = (N.take j).flatMap (tx m) ++ (tx m x ++ (N.drop (j + 1)).flatMap (tx m)) := by
          conv => lhs; rw [← List.take_append_drop j N, List.drop_eq_getElem_cons hjl, (List.getElem?_eq_some_iff.mp hx).2, List.flatMap_append, List.flatMap_cons]
        have hat : ∀ i q, (tx m x)[i]? = some q → (T0 ++ N.flatMap (tx m))[(T0 ++ (N.take j).flatMap (tx m)).length + i]? = some q := by
          intro i q hi
          rw [hsp, ← List.append_assoc, List.getElem?_append_right (by omega), Nat.add_sub_cancel_left, List.getElem?_append_left (List.getElem?_eq_some_iff.mp hi).1]
          exact hi
        have hb75 : ∀ i q, (tx m x)[i]? = some q → (T0 ++ (N.take j).flatMap (tx m)).length + i < 75 := fun i q hi => Nat.lt_of_lt_of_le (List.getElem?_eq_some_iff.mp (hat i q hi)).1 hl
        rw [show xu I1 10 j (-1) 9 j = I1 9 j from xu_other (by omega), h9]
        by_cases h135 : x.1 = 135
        · rw [if_pos h135] at hlen
          obtain ⟨B, hB⟩ := List.length_eq_one_iff.mp hlen
          have hgB : (tx m x)[0]? = some B := by rw [hB]; rfl
          refine ⟨_, c_RQ_typeOf hL hm1 he hT1 (hat 0 B hgB) hl (hk.2.1 B (by rw [hB]; simp)), ?_⟩
          rintro w I3 _ _ ⟨rfl, rfl, rfl, rfl⟩
          refine ⟨pk_in j 12 (by omega), pk_in j 12 (by omega), ?_⟩
          rw [show xu I1 10 j (-1) 7 j = nI x.1 from (xu_other (by omega)).trans h7]
          refine pk_eq x.1 135 (fun _ => next _ _ (fun b k hb => (xu_other hb).trans (xu_other hb)) (fun b k hb => xu_other hb) (fun _ => ⟨?_, fun z => absurd h135 z⟩)) (fun z => absurd h135 z)
          rw [xu_at, lty, hB]
        · rw [if_neg h135] at hlen
          obtain ⟨B, C, hBC⟩ : ∃ B C, tx m x = [B, C] := by
            match tx m x, hlen with
            | [B, C], _ => exact ⟨B, C, rfl⟩
          have hgB : (tx m x)[0]? = some B := by rw [hBC]; rfl
          have hgC : (tx m x)[1]? = some C := by rw [hBC]; rfl
          have hqC := hk.2.1 C (by rw [hBC]; simp)
          have hlt : lty m x = tyx m B := by rw [lty, hBC]
          refine ⟨_, c_RQ_typeOf hL hm1 he hT1 (hat 0 B hgB) hl (hk.2.1 B (by rw [hBC]; simp)), ?_⟩
          rintro w I3 _ _ ⟨rfl, rfl, rfl, rfl⟩
          refine ⟨pk_in j 12 (by omega), pk_in j 12 (by omega), ?_⟩
          rw [show xu I1 10 j (-1) 7 j = nI x.1 from (xu_other (by omega)).trans h7]
          refine pk_eq x.1 135 (fun z => absurd z h135) (fun _ => ⟨pk_in j 12 (by omega), pk_in j 12 (by omega), ?_⟩)
          rw [show xu I1 10 j (-1) 9 j = nI (T0 ++ (N.take j).flatMap (tx m)).length from (xu_other (by omega)).trans h9, nI_1]
          have hT2 : xTx (xu (xu I1 10 j (-1)) 10 j (tyo (tyx m B))) (T0 ++ N.flatMap (tx m)) := ⟨(xu_other (by omega)).trans hT1.1, fun i q hi => ⟨(xu_other (by omega)).trans (hT1.2 i q hi).1, (xu_other (by omega)).trans (hT1.2 i q hi).2⟩⟩
          have hm2 : xMs (xu (xu I1 10 j (-1)) 10 j (tyo (tyx m B))) 2 m e := fun i hi => ⟨(xu_other (by omega)).trans (hm1 i hi).1, (hm1 i hi).2⟩
          refine ⟨_, c_RQ_packed hL hm2 he hT2 (hat 1 C hgC) hl hqC, ?_⟩
          rintro w I4 _ _ ⟨rfl, rfl, rfl, rfl⟩
          have fin : ∀ z5, z5 = pko (lpl m x) → (vp_in (nI j) 12 ∧ G_FL_readLeaves l V (fun I' J' P' => P = P' ∧ (∀ b k, b ≠ 10 → I' b k = I b k) ∧ (∀ b k, b ≠ 11 → J' b k = J b k) ∧ xLv m I' J' N) 2 [(0, xq (some 6)), (1, xq (some 1)), (2, xi (nI (j + 1)))] [] (xu (xu I1 10 j (-1)) 10 j (tyo (tyx m B))) (xu (xu J1 11 j (-1)) 11 j z5) P) := by
            rintro _ rfl
            refine ⟨pk_in j 12 (by omega), next _ _ (fun b k hb => (xu_other hb).trans (xu_other hb)) (fun b k hb => (xu_other hb).trans (xu_other hb)) (fun _ => ⟨?_, fun _ => xu_at⟩)⟩
            rw [xu_at, hlt]
          cases hty : tyx m B with
          | none =>
            rw [hty] at fin
            refine ⟨_, c_SX_plainOf_neg hL, ?_⟩
            rintro w I4 _ _ ⟨rfl, rfl, rfl, rfl⟩
            refine fin _ ?_
            rw [lpl, hBC]
            simp only [hlt, hty]
            rfl
          | some t =>
            rw [hty] at fin
            have ht5 := tyx_5 hty
            cases hvo : vo m C.1 C.2 with
            | none =>
              refine ⟨_, c_SX_plainOf_no hL, ?_⟩
              rintro w I4 _ _ ⟨rfl, rfl, rfl, rfl⟩
              refine fin _ ?_
              rw [lpl, hBC]
              simp only [hlt, hty, val, hvo]
              rfl
            | some g =>
              have hgo := vo_ok (fun i hi => (hm i (by omega)).2) hvo
              refine ⟨_, c_SX_plainOf hL hgo.1 hgo.2.1 ht5, ?_⟩
              rintro w I4 _ _ ⟨rfl, rfl, rfl, rfl⟩
              refine fin _ ?_
              rw [lpl, hBC]
              simp only [hlt, hty, val, hvo, Option.bind_some]
              cases po t g <;> rfl
  exact e_FL_readLeaves (b_FL_readLeaves_0 hL (loop N.length 0 I J (by omega) (fun _ _ _ => rfl) (fun _ _ _ => rfl) (fun i x hi => by omega)))
end XFL

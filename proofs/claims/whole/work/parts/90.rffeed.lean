/-! the reference takes bytes -/
/-- the reference is in the state S -/
def xRl (I : xIt) (S : Ss) : Prop := xRt I S.1 ∧ I 250 37 = upI S.2.1 ∧ I 250 46 = S.2.2.1 ∧ I 250 47 = nI S.2.2.2.1 ∧ I 250 0 = (if S.2.2.2.2.1 = true then 0 else 1) ∧ I 250 1 = nI S.2.2.2.2.2.1.length ∧ (∀ j c, S.2.2.2.2.2.1[j]? = some c → I 251 j = nI c) ∧ xRo I S.2.2.2.2.2.2
section XRG
variable {l : Launch} {V : xV} {I : xIt} {J : xJt} {P : xPt}
theorem c_RF_noticeByte {k : Nat} (hL : xL P) (hk : k < 14) : xMet l V y_RF_noticeByte 1 0 0 [xi (nI k)] xS0 I J P (xPi (fun r I' J' P' => I = I' ∧ J = J' ∧ P = P' ∧ r = nI (gt ntc k))) := by
  refine e_RF_noticeByte (b_RF_noticeByte_0 hL ?_)
  have y : ∀ (i c : Nat), i < 14 → gt ntc i = c → nI k = nI i → I = I ∧ J = J ∧ P = P ∧ nI c = nI (gt ntc k) := by
    intro i c hi hc h
    have := (nI_eq (by omega) (by omega)).mp h
    subst this
    rw [hc]
    exact ⟨rfl, rfl, rfl, rfl⟩
  refine ⟨y 0 48 (by decide) rfl, y 1 12 (by decide) rfl, y 2 2 (by decide) rfl, y 3 1 (by decide) rfl, y 4 0 (by decide) rfl, y 5 120 (by decide) rfl, y 6 7 (by decide) rfl, y 7 10 (by decide) rfl, y 8 1 (by decide) rfl, y 9 2 (by decide) rfl, y 10 4 (by decide) rfl, y 11 0 (by decide) rfl, y 12 4 (by decide) rfl, ?_⟩
  intro n0 n1 n2 n3 n4 n5 n6 n7 n8 n9 n10 n11 n12
  have ne : ∀ i : Nat, ¬ nI k = nI i → k ≠ i := fun i h h2 => h (by rw [h2])
  have := ne 0 n0; have := ne 1 n1; have := ne 2 n2; have := ne 3 n3; have := ne 4 n4; have := ne 5 n5; have := ne 6 n6; have := ne 7 n7; have := ne 8 n8; have := ne 9 n9; have := ne 10 n10; have := ne 11 n11; have := ne 12 n12
  exact y 13 0 (by decide) rfl (by rw [show k = 13 by omega])
def Qmf (I : xIt) (J : xJt) (P : xPt) : xIt → xJt → xPt → Prop := fun I' J' P' => J = J' ∧ P = P' ∧ (∀ a j, a ≠ 271 → ¬ (a = 250 ∧ (j = 0 ∨ j = 42)) → I' a j = I a j) ∧ I' 250 0 = 1 ∧ xRo I' ntc
set_option maxRecDepth 20000 in
theorem c_RF_malformed (hL : xL P) : xMet l V y_RF_malformed 2 0 0 [xq (some 250)] xS0 I J P (xPv (Qmf I J P)) := by
  have loop : ∀ (g k : Nat) (I1 : xIt), g + k = 14 → (∀ a j, a ≠ 271 → ¬ (a = 250 ∧ j = 42) → I1 a j = I a j) → I1 250 42 = 14 → (∀ i, i < k → I1 271 i = nI (gt ntc i)) → G_RF_malformed l V (Qmf I J P) 8 [(0, xq (some 250)), (1, xi (nI k))] [] I1 J P := by
    intro g
    induction g with
    | zero =>
      intro k I1 hk hs h42 ho
      refine b_RF_malformed_8 hL (pk_le 14 k (fun _ => ?_) (fun _ => by omega))
      refine ⟨rfl, rfl, fun a j h1 h2 => (xu_other (by omega)).trans (hs a j h1 (by omega)), xu_at, (xu_other (by omega)).trans h42, by decide, fun i b hi => (xu_other (by omega)).trans ?_⟩
      have hl := (List.getElem?_eq_some_iff.mp hi).1
      have : ntc.length = 14 := rfl
      rw [ho i (by omega), gt_at hi]
    | succ g ih =>
      intro k I1 hk hs h42 ho
      refine b_RF_malformed_8 hL (pk_le 14 k (fun _ => by omega) (fun _ => ⟨_, c_RF_noticeByte hL (by omega), ?_⟩))
      rintro z1 I2 _ _ ⟨rfl, rfl, rfl, rfl⟩
      rw [nI_1, ncl k]
      refine ⟨pk_in k 2048 (by omega), ih (k + 1) _ (by omega) (fun a j h1 h2 => (xu_other (by omega)).trans (hs a j h1 h2)) ((xu_other (by omega)).trans h42) (fun i hi => ?_)⟩
      by_cases h : i = k
      · subst h; exact xu_at
      · rw [xu_other (by omega)]; exact ho i (by omega)
  exact e_RF_malformed (b_RF_malformed_0 hL (loop 14 0 _ rfl (fun a j h1 h2 => xu_other (by omega)) xu_at (fun i hi => by omega)))
/-- what the reference sees of a message, in the words of jd -/
theorem jd_2 {M : List Nat} {b : Nat} (hw : wt M) (h0 : gt (M ++ [b]) 0 = 48) (h1 : 1 < (M ++ [b]).length) (h2 : gt (M ++ [b]) 1 ≤ 127) : jd (M ++ [b]) = if (M ++ [b]).length = 2 + gt (M ++ [b]) 1 then some (some 2) else none := by
  cases hj : jd (M ++ [b]) with
  | none =>
    unfold jd at hj
    rw [if_neg (by omega), if_neg (by omega), if_pos (by omega)] at hj
    by_cases c : 2 + gt (M ++ [b]) 1 ≤ (M ++ [b]).length
    · rw [if_pos c] at hj; cases hj
    · rw [if_neg (by omega)]
  | some o =>
    have hj0 := hj
    unfold jd at hj
    rw [if_neg (by omega), if_neg (by omega), if_pos (by omega)] at hj
    by_cases c : 2 + gt (M ++ [b]) 1 ≤ (M ++ [b]).length
    · rw [if_pos c] at hj
      cases hj
      have := (jd_exact hw hj0).2.1
      rw [if_pos this]
    · rw [if_neg c] at hj; cases hj
theorem jd_3 {M : List Nat} {b : Nat} (hw : wt M) (h0 : gt (M ++ [b]) 0 = 48) (h1 : 2 < (M ++ [b]).length) (h2 : gt (M ++ [b]) 1 = 129) (h3 : gt (M ++ [b]) 2 ≤ 150) : jd (M ++ [b]) = if (M ++ [b]).length = 3 + gt (M ++ [b]) 2 then some (some 3) else none := by
  cases hj : jd (M ++ [b]) with
  | none =>
    unfold jd at hj
    rw [if_neg (by omega), if_neg (by omega), if_neg (by omega), if_neg (by omega), if_neg (by omega), if_neg (by omega)] at hj
    by_cases c : 3 + gt (M ++ [b]) 2 ≤ (M ++ [b]).length
    · rw [if_pos c] at hj; cases hj
    · rw [if_neg (by omega)]
  | some o =>
    have hj0 := hj
    unfold jd at hj
    rw [if_neg (by omega), if_neg (by omega), if_neg (by omega), if_neg (by omega), if_neg (by omega), if_neg (by omega)] at hj
    by_cases c : 3 + gt (M ++ [b]) 2 ≤ (M ++ [b]).length
    · rw [if_pos c] at hj
      cases hj
      have := (jd_exact hw hj0).2.1
      rw [if_pos this]
    · rw [if_neg c] at hj; cases hj
def Qcm (S : Ss) (b : Nat) (I : xIt) (J : xJt) (P : xPt) : Int32 → xIt → xJt → xPt → Prop := fun r I' J' P' => J = J' ∧ P = P' ∧ (∀ a j, a < 250 → I' a j = I a j) ∧ r = (if (nxt S b).2 = true then 1 else 0) ∧ xRl I' (nxt S b).1
set_option maxRecDepth 20000 in
theorem c_RF_comes {b : Nat} {S : Ss} (hL : xL P) (hb : b < 256) (hR : xRl I S) (hS : sok S) : xMet l V y_RF_comes 8 0 0 [xq (some 250), xi (nI b)] xS0 I J P (xPi (Qcm S b I J P)) := by
  have hR0 := hR
  obtain ⟨hT, h37, h46, h47, h0, h1, hM, hO⟩ := hR
  obtain ⟨i1, i2, i3, i4, i5, i6⟩ := hS
  have hlen := wt_len i4
  refine e_RF_comes (b_RF_comes_0 hL ?_)
  rw [h0, h1, nI_1, ncl S.2.2.2.2.2.1.length]
  by_cases hop : ¬ S.2.2.2.2.1 = true
  · rw [if_neg hop]
    rw [Bool.not_eq_true] at hop
    have hnx : nxt S b = (S, false) := by unfold nxt; rw [if_neg (by rw [hop]; decide)]
    exact ⟨fun z => absurd z (by decide), fun _ => ⟨rfl, rfl, fun _ _ _ => rfl, by rw [hnx]; rfl, by rw [hnx]; exact hR0⟩⟩
  have hop : S.2.2.2.2.1 = true := Classical.not_not.mp hop
  rw [if_pos hop]
  refine ⟨fun _ => ⟨pk_in S.2.2.2.2.2.1.length 160 (by omega), ?_⟩, fun z => absurd rfl z⟩
  have hln : (S.2.2.2.2.2.1 ++ [b]).length = S.2.2.2.2.2.1.length + 1 := by simp
  have h8' : by8 (S.2.2.2.2.2.1 ++ [b]) := by8_app i5 (fun q hq => by simp at hq; omega)
  have hM1 : ∀ j q, (S.2.2.2.2.2.1 ++ [b])[j]? = some q → xu I 251 S.2.2.2.2.2.1.length (nI b) 251 j = nI q := by
    intro j q hj
    by_cases hjl : j < S.2.2.2.2.2.1.length
    · rw [List.getElem?_append_left hjl] at hj
      rw [xu_other (by omega)]; exact hM j q hj
    · rw [List.getElem?_append_right (by omega)] at hj
      have h8 : j = S.2.2.2.2.2.1.length := by
        have := (List.getElem?_eq_some_iff.mp hj).1
        simp at this
        omega
      subst h8
      simp at hj
      subst hj
      exact xu_at
  have hms1 := ms_of hM1 h8'
  rw [← hln]
  have hSn := nxt_ok (S := S) (b := b) ⟨i1, i2, i3, i4, i5, i6⟩ hb
  have hm2 : xMs (xu (xu I 251 S.2.2.2.2.2.1.length (nI b)) 250 1 (nI (S.2.2.2.2.2.1 ++ [b]).length)) 251 (gt (S.2.2.2.2.2.1 ++ [b])) (S.2.2.2.2.2.1 ++ [b]).length := fun j hj => ⟨(xu_other (by omega)).trans (hms1 j hj).1, (hms1 j hj).2⟩
  have k2 : xu (xu I 251 S.2.2.2.2.2.1.length (nI b)) 250 1 (nI (S.2.2.2.2.2.1 ++ [b]).length) 250 1 = nI (S.2.2.2.2.2.1 ++ [b]).length := xu_at
  have f2 : ∀ a j, a ≠ 251 → ¬ (a = 250 ∧ j = 1) → xu (xu I 251 S.2.2.2.2.2.1.length (nI b)) 250 1 (nI (S.2.2.2.2.2.1 ++ [b]).length) a j = I a j := fun a j h1 h2 => (xu_other h2).trans (xu_other (by omega))
  have hM2 : ∀ j q, (S.2.2.2.2.2.1 ++ [b])[j]? = some q → xu (xu I 251 S.2.2.2.2.2.1.length (nI b)) 250 1 (nI (S.2.2.2.2.2.1 ++ [b]).length) 251 j = nI q := fun j q hj => (xu_other (by omega)).trans (hM1 j q hj)
  generalize hI2 : xu (xu I 251 S.2.2.2.2.2.1.length (nI b)) 250 1 (nI (S.2.2.2.2.2.1 ++ [b]).length) = I2 at *
  generalize hN : S.2.2.2.2.2.1 ++ [b] = N at *
  have hT2 : xRt I2 S.1 := hT.keep' (f2 250 27 (by omega) (by omega)) (fun a j h1 h2 => f2 a j (by omega) (by omega))
  -- it isn't whole
  have wait : jd N = none → Qcm S b I J P 0 I2 J P := by
    intro hj
    have hnx : nxt S b = ((S.1, S.2.1, S.2.2.1, S.2.2.2.1, true, N, S.2.2.2.2.2.2), false) := by unfold nxt; rw [if_pos hop, hN, hj]
    refine ⟨rfl, rfl, fun a j h => f2 a j (by omega) (by omega), by rw [hnx]; rfl, ?_⟩
    rw [hnx]
    exact ⟨hT2, (f2 250 37 (by omega) (by omega)).trans h37, (f2 250 46 (by omega) (by omega)).trans h46, (f2 250 47 (by omega) (by omega)).trans h47, ((f2 250 0 (by omega) (by omega)).trans h0).trans (by rw [hop]), k2, hM2, (f2 250 42 (by omega) (by omega)).trans hO.1, hO.2.1, fun i c hi => (f2 271 i (by omega) (by omega)).trans (hO.2.2 i c hi)⟩
  -- it never will be, or isn't formed
  have bad : ∀ (oo : Option Nat) (I3 : xIt), jd N = some oo → oo.bind (fun h => fg (gt N) h N.length) = none → (∀ a j, a < 250 ∨ (258 ≤ a ∧ a ≤ 266) ∨ (a = 250 ∧ (j = 1 ∨ 27 ≤ j)) → I3 a j = xu I2 250 1 0 a j) → ∃ Q1 : xIt → xJt → xPt → Prop, xMet l V y_RF_malformed 2 0 0 [xq (some 250)] xS0 I3 J P (xPv Q1) ∧ ∀ I1 J1 P1, Q1 I1 J1 P1 → Qcm S b I J P 1 I1 J1 P1 := by
    intro oo I3 hj hq hf
    refine ⟨_, c_RF_malformed hL, ?_⟩
    rintro I4 _ _ ⟨rfl, rfl, hs, h04, hO4⟩
    have hnx : nxt S b = ((S.1, S.2.1, S.2.2.1, S.2.2.2.1, false, [], ntc), true) := by unfold nxt; rw [if_pos hop, hN, hj]; simp only; rw [hq]
    have g : ∀ a j, a < 250 ∨ (258 ≤ a ∧ a ≤ 266) ∨ (a = 250 ∧ (27 ≤ j)) → j ≠ 42 → I4 a j = I a j := fun a j h h2 => (hs a j (by omega) (by omega)).trans ((hf a j (by omega)).trans ((xu_other (by omega)).trans (f2 a j (by omega) (by omega))))
    have g' : ∀ a j, a < 250 ∨ (258 ≤ a ∧ a ≤ 266) → I4 a j = I a j := fun a j h => (hs a j (by omega) (by omega)).trans ((hf a j (by omega)).trans ((xu_other (by omega)).trans (f2 a j (by omega) (by omega))))
    refine ⟨rfl, rfl, fun a j h => g' a j (by omega), by rw [hnx]; rfl, ?_⟩
    rw [hnx]
    refine ⟨hT.keep' (g 250 27 (by omega) (by omega)) (fun a j h1 h2 => g' a j (by omega)), (g 250 37 (by omega) (by omega)).trans h37, (g 250 46 (by omega) (by omega)).trans h46, (g 250 47 (by omega) (by omega)).trans h47, h04, ?_, fun j q hj => by simp at hj, hO4⟩
    exact (hs 250 1 (by omega) (by omega)).trans ((hf 250 1 (by omega)).trans xu_at)
  -- it is judged
  have at180 : ∀ (v2 v3 : Int32) (h : Nat), jd N = some (some h) → h ≤ 3 → G_RF_comes l V (Qcm S b I J P) 180 [(0, xq (some 250)), (1, xi (nI b)), (2, xi v2), (3, xi v3), (4, xi (nI h)), (5, xi 1)] [] I2 J P := by
    intro v2 v3 h hj h3
    refine b_RF_comes_180 hL ⟨fun z => absurd z (by decide), fun _ => ?_⟩
    rw [k2]
    refine ⟨_, c_RF_formed (m := gt N) (b := h) (e := N.length) hL (fun j hj => ⟨(xu_other (by omega)).trans (hm2 j hj).1, (hm2 j hj).2⟩) (by omega) (by omega), ?_⟩
    rintro z2 I3 _ _ ⟨rfl, rfl, hs3, ho⟩
    have g3 : ∀ a j, a ≤ 251 ∨ (258 ≤ a ∧ a ≤ 266) ∨ a = 271 → ¬ (a = 250 ∧ (3 ≤ j ∧ j ≤ 18)) → I3 a j = xu I2 250 1 0 a j := fun a j h1 h2 => hs3 a j (dF_no (fun h => by simp; omega) (by simp; omega))
    refine x_op ho (fun hn => bad (some h) I3 hj hn (fun a j h => g3 a j (by omega) (by omega))) (fun q hq hA => ?_)
    obtain ⟨h8, h9, hpay⟩ := hA
    obtain ⟨⟨d, hd1, hd2, hqd⟩, hop256, hfe, hfok⟩ := fg_ok (gt_256 h8') hq
    have hdc : q.1.toNatClampNeg = d := by rw [hqd, ncl d]
    have g : ∀ a j, a < 250 ∨ (258 ≤ a ∧ a ≤ 266) ∨ (a = 250 ∧ (j = 0 ∨ 19 ≤ j)) → ¬ (a = 250 ∧ 1 ≤ j ∧ j ≤ 18) → I3 a j = I a j := fun a j h1 h2 => (g3 a j (by omega) (by omega)).trans ((xu_other (by omega)).trans (f2 a j (by omega) (by omega)))
    have hT3 : xRt I3 S.1 := hT.keep' (g 250 27 (by omega) (by omega)) (fun a j h1 h2 => g a j (by omega) (by omega))
    have hm3 : xMs I3 251 (gt N) N.length := fun j hj => ⟨(g3 251 j (by omega) (by omega)).trans ((xu_other (by omega)).trans (hm2 j hj).1), (hm2 j hj).2⟩
    have h31 : I3 250 1 = 0 := (g3 250 1 (by omega) (by omega)).trans xu_at
    by_cases h66 : q.2.1 = 66
    · have hnx : nxt S b = ((S.1, S.2.1, S.2.2.1, S.2.2.2.1, false, [], []), true) := by unfold nxt; rw [if_pos hop, hN, hj]; simp only; rw [Option.bind_some, hq]; simp only; rw [if_pos h66]
      refine ⟨Qcm S b I J P 1, ?_, fun _ _ _ h => h⟩
      have g5 : ∀ a j, ¬ (a = 250 ∧ (j = 0 ∨ j = 42)) → xu (xu I3 250 42 0) 250 0 1 a j = I3 a j := fun a j h => (xu_other (by omega)).trans (xu_other (by omega))
      have fin : Qcm S b I J P 1 (xu (xu I3 250 42 0) 250 0 1) J P := by
        refine ⟨rfl, rfl, fun a j h => (g5 a j (by omega)).trans (g a j (by omega) (by omega)), by rw [hnx]; rfl, ?_⟩
        rw [hnx]
        refine ⟨hT3.keep' (g5 250 27 (by omega)) (fun a j h1 h2 => g5 a j (by omega)), (g5 250 37 (by omega)).trans ((g 250 37 (by omega) (by omega)).trans h37), (g5 250 46 (by omega)).trans ((g 250 46 (by omega) (by omega)).trans h46), (g5 250 47 (by omega)).trans ((g 250 47 (by omega) (by omega)).trans h47), xu_at, (g5 250 1 (by omega)).trans h31, fun j q hj => by simp at hj, (xu_other (by omega)).trans xu_at, by simp, fun i c hi => by simp at hi⟩
      have h95 : xu (xu I3 250 42 0) 250 0 1 250 9 = 66 := (g5 250 9 (by omega)).trans (h9.trans (by rw [h66]; rfl))
      have h93 : I3 250 9 = 66 := h9.trans (by rw [h66]; rfl)
      refine e_RF_perform (b_RF_perform_0 hL ⟨fun z => absurd h93 z, fun _ => ⟨fun _ => ?_, fun z => absurd (h93.symm.trans z) (by decide)⟩⟩)
      refine b_RF_perform_38 hL ⟨fun _ => ⟨fun _ => ?_, fun z => absurd (h95.symm.trans z) (by decide)⟩, fun z => absurd (h95.symm.trans z) (by decide)⟩
      refine b_RF_perform_76 hL ⟨fun _ => ⟨fun _ => ?_, fun z => absurd (h95.symm.trans z) (by decide)⟩, fun z => absurd (h95.symm.trans z) (by decide)⟩
      exact b_RF_perform_114 hL ⟨fun _ => ⟨fun _ => fin, fun z => absurd (h95.symm.trans z) (by decide)⟩, fun z => absurd (h95.symm.trans z) (by decide)⟩
    · refine ⟨_, c_RF_perform (op := q.2.1) (f := q.2.2) (d := d) (fd := S.2.2.2.1) (b := S.2.1) hL hm3 (by omega) hfe i1 hT3 i2 i3 hfok h66 hop256 hpay h9 (h8.trans hqd) hd2 ((g 250 37 (by omega) (by omega)).trans h37) ((g 250 47 (by omega) (by omega)).trans h47), ?_⟩
      rintro I4 _ _ ⟨rfl, rfl, hf4, hT4, h374, h464, h474, hO4⟩
      have hnx : nxt S b = (((prf (gt N) N.length d q.2.1 q.2.2 S.1 S.2.1 S.2.2.2.1).2.1, (prf (gt N) N.length d q.2.1 q.2.2 S.1 S.2.1 S.2.2.2.1).2.2.1, nI (prf (gt N) N.length d q.2.1 q.2.2 S.1 S.2.1 S.2.2.2.1).1, (prf (gt N) N.length d q.2.1 q.2.2 S.1 S.2.1 S.2.2.2.1).2.2.2.1, true, [], (prf (gt N) N.length d q.2.1 q.2.2 S.1 S.2.1 S.2.2.2.1).2.2.2.2 ++ rsb d q.2.1 (prf (gt N) N.length d q.2.1 q.2.2 S.1 S.2.1 S.2.2.2.1).1), true) := by
        unfold nxt
        rw [if_pos hop, hN, hj]
        simp only
        rw [Option.bind_some, hq]
        simp only
        rw [if_neg h66, hdc]
      refine ⟨rfl, rfl, fun a j h => (hf4 a j (by omega)).trans (g a j (by omega) (by omega)), by rw [hnx]; rfl, ?_⟩
      rw [hnx]
      exact ⟨hT4, h374, h464, h474, (hf4 250 0 (by omega)).trans ((g 250 0 (by omega) (by omega)).trans (h0.trans (by rw [hop]))), (hf4 250 1 (by omega)).trans h31, fun j q hj => by simp at hj, hO4⟩
  have never : ∀ (v2 : Int32) (u0 : Int32), jd N = some none → G_RF_comes l V (Qcm S b I J P) 128 [(0, xq (some 250)), (1, xi (nI b)), (2, xi v2), (3, xi 1)] [xi u0] I2 J P := by
    intro v2 u0 hj
    refine b_RF_comes_128 hL ⟨fun _ => ⟨fun _ => ?_, fun z => absurd z (by decide)⟩, fun z => absurd z (by decide)⟩
    exact b_RF_comes_180 hL ⟨fun _ => bad none _ hj rfl (fun _ _ _ => rfl), fun z => absurd rfl z⟩
  have at128 : ∀ (v2 : Int32) (h : Nat), (h = 2 ∨ h = 3) → (N.length < h → jd N = none) → (h ≤ N.length → jd N = if N.length = h + gt N (h - 1) then some (some h) else none) → G_RF_comes l V (Qcm S b I J P) 128 [(0, xq (some 250)), (1, xi (nI b)), (2, xi v2), (3, xi 0)] [xi (nI h)] I2 J P := by
    intro v2 h h23 hw1 hw2
    refine b_RF_comes_128 hL ⟨fun z => absurd rfl z, fun _ => ?_⟩
    rw [k2]
    refine pk_lt N.length h (fun z => ⟨fun z => absurd rfl z, fun _ => wait (hw1 z)⟩) (fun z => ?_)
    rw [show nI h - 1 = nI (h - 1) from pk_sub (b := 1) (by omega), ncl (h - 1)]
    have hb1 := hm2 (h - 1) (by omega)
    rw [hb1.1, nI_add]
    refine ⟨pk_in (h - 1) 160 (by omega), (pk_eq N.length (h + gt N (h - 1)) (fun ze => ?_) (fun ze => ?_)).symm⟩
    · have hj := hw2 z
      rw [if_pos ze] at hj
      exact ⟨fun z => absurd rfl z, fun _ => at180 v2 0 h hj (by omega)⟩
    · have hj := hw2 z
      rw [if_neg ze] at hj
      exact ⟨fun z => absurd rfl z, fun _ => wait hj⟩
  have hN1 : 1 ≤ N.length := by omega
  have at89 : ∀ (v2 : Int32), gt N 0 = 48 → (v2 = 0 ∧ (N.length ≤ 1 ∨ (1 < N.length ∧ gt N 1 ≤ 127))) ∨ (v2 = 1 ∧ 1 < N.length ∧ gt N 1 = 129) → G_RF_comes l V (Qcm S b I J P) 89 [(0, xq (some 250)), (1, xi (nI b)), (2, xi v2)] [] I2 J P := by
    intro v2 h48 hc
    rcases hc with ⟨rfl, hc⟩ | ⟨rfl, hc1, hc2⟩
    · refine b_RF_comes_89 hL ⟨fun _ => ⟨fun _ => ?_, fun z => absurd rfl z⟩, fun z => absurd rfl z⟩
      refine at128 0 2 (Or.inl rfl) (fun h => ?_) (fun h => ?_)
      · unfold jd; rw [if_neg (by omega), if_pos (by omega)]
      · subst hN
        exact jd_2 i4 h48 (by omega) (by omega)
    · refine b_RF_comes_89 hL ⟨fun z => absurd z (by decide), fun _ => ?_⟩
      rw [k2]
      refine pk_le N.length 2 (fun z => ⟨fun z => absurd z (by decide), fun _ => ?_⟩) (fun z => ?_)
      · refine at128 1 3 (Or.inr rfl) (fun h => ?_) (fun h => by omega)
        unfold jd; rw [if_neg (by omega), if_neg (by omega), if_neg (by omega), if_neg (by omega), if_pos (by omega)]
      · have g2 := (hm2 2 (by omega)).2
        rw [(hm2 2 (by omega)).1]
        refine pk_le (gt N 2) 150 (fun z5 => ⟨fun z => absurd z (by decide), fun _ => ?_⟩) (fun z5 => ⟨fun z => absurd z (by decide), fun _ => never 1 3 ?_⟩)
        · refine at128 1 3 (Or.inr rfl) (fun h => by omega) (fun h => ?_)
          subst hN
          exact jd_3 i4 h48 (by omega) (by omega) (by omega)
        · unfold jd; rw [if_neg (by omega), if_neg (by omega), if_neg (by omega), if_neg (by omega), if_neg (by omega), if_pos (by omega)]
  have at54 : ∀ (u0 : Int32), (u0 = 0 ∧ ¬ (1 < N.length ∧ gt N 1 = 129)) ∨ (u0 = 1 ∧ 1 < N.length ∧ gt N 1 = 129) → G_RF_comes l V (Qcm S b I J P) 54 [(0, xq (some 250)), (1, xi (nI b))] [xi u0] I2 J P := by
    intro u0 hc
    refine b_RF_comes_54 hL ?_
    have g0 := (hm2 0 (by omega)).2
    rw [(hm2 0 (by omega)).1, k2]
    refine (pk_eq (gt N 0) 48 (fun z0 => ?_) (fun z0 => ?_)).symm
    · refine pk_le N.length 1 (fun z1 => at89 u0 z0 ?_) (fun z1 => ?_)
      · rcases hc with ⟨rfl, hc⟩ | ⟨rfl, hc1, hc2⟩
        · exact Or.inl ⟨rfl, Or.inl z1⟩
        · omega
      · have g1 := (hm2 1 (by omega)).2
        rw [(hm2 1 (by omega)).1]
        refine pk_le (gt N 1) 127 (fun z2 => at89 u0 z0 ?_) (fun z2 => ⟨fun zu => ?_, fun zu => at89 u0 z0 ?_⟩)
        · rcases hc with ⟨rfl, hc⟩ | ⟨rfl, hc1, hc2⟩
          · exact Or.inl ⟨rfl, Or.inr ⟨z1, z2⟩⟩
          · omega
        · rcases hc with ⟨rfl, hc⟩ | ⟨rfl, hc1, hc2⟩
          · refine ⟨fun _ => never 0 2 ?_, fun z => absurd rfl z⟩
            unfold jd; rw [if_neg (by omega), if_neg (by omega), if_neg (by omega), if_pos (by omega)]
          · exact absurd zu (by decide)
        · rcases hc with ⟨rfl, hc⟩ | ⟨rfl, hc1, hc2⟩
          · exact absurd rfl zu
          · exact Or.inr ⟨rfl, hc1, hc2⟩
    · have hj : jd N = some none := by unfold jd; rw [if_pos z0]
      exact ⟨fun _ => never u0 2 hj, fun _ => never u0 3 hj⟩
  refine pk_le N.length 1 (fun z => at54 0 (Or.inl ⟨rfl, by omega⟩)) (fun z => ?_)
  have g1 := (hms1 1 (by omega)).2
  rw [(hms1 1 (by omega)).1]
  exact (pk_eq (gt N 1) 129 (fun z1 => at54 1 (Or.inr ⟨rfl, z, z1⟩)) (fun z1 => at54 0 (Or.inl ⟨rfl, fun h => z1 h.2⟩))).symm
end XRG

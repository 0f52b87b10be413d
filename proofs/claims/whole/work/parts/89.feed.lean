/-! the class takes bytes -/
def jn (M : List Nat) : Nat := if ¬ gt M 0 = 48 then 1 else if M.length < 2 then 2 else if gt M 1 < 128 then 2 + gt M 1 else if ¬ gt M 1 = 129 then 2 else if M.length < 3 then 3 else if 150 < gt M 2 then 3 else 3 + gt M 2
theorem jd_jn {M : List Nat} (h : 1 ≤ M.length) : jd M = none ↔ M.length < jn M := by
  unfold jd jn
  by_cases c0 : ¬ gt M 0 = 48
  · rw [if_pos c0, if_pos c0]
    constructor
    · intro h; cases h
    · intro h; omega
  rw [if_neg c0, if_neg c0]
  by_cases c1 : M.length < 2
  · rw [if_pos c1, if_pos c1]; simp; exact c1
  rw [if_neg c1, if_neg c1]
  by_cases c2 : gt M 1 < 128
  · rw [if_pos c2, if_pos c2]
    by_cases c3 : 2 + gt M 1 ≤ M.length
    · rw [if_pos c3]
      constructor
      · intro h; cases h
      · intro h; omega
    · rw [if_neg c3]; simp; omega
  rw [if_neg c2, if_neg c2]
  by_cases c3 : ¬ gt M 1 = 129
  · rw [if_pos c3, if_pos c3]
    constructor
    · intro h; cases h
    · intro h; omega
  rw [if_neg c3, if_neg c3]
  by_cases c4 : M.length < 3
  · rw [if_pos c4, if_pos c4]; simp; exact c4
  rw [if_neg c4, if_neg c4]
  by_cases c5 : 150 < gt M 2
  · rw [if_pos c5, if_pos c5]
    constructor
    · intro h; cases h
    · intro h; omega
  rw [if_neg c5, if_neg c5]
  by_cases c6 : 3 + gt M 2 ≤ M.length
  · rw [if_pos c6]
    constructor
    · intro h; cases h
    · intro h; omega
  · rw [if_neg c6]; simp; omega
theorem jn_lt {M : List Nat} (h8 : by8 M) : jn M < 1000 := by
  have g := gt_256 h8
  unfold jn
  by_cases c0 : ¬ gt M 0 = 48
  · rw [if_pos c0]; omega
  rw [if_neg c0]
  by_cases c1 : M.length < 2
  · rw [if_pos c1]; omega
  rw [if_neg c1]
  by_cases c2 : gt M 1 < 128
  · rw [if_pos c2]; omega
  rw [if_neg c2]
  by_cases c3 : ¬ gt M 1 = 129
  · rw [if_pos c3]; omega
  rw [if_neg c3]
  by_cases c4 : M.length < 3
  · rw [if_pos c4]; omega
  rw [if_neg c4]
  by_cases c5 : 150 < gt M 2
  · rw [if_pos c5]; omega
  rw [if_neg c5]; omega
theorem dO_no {o : Nat} {ks as : List Nat} {a k : Nat} (h1 : a = o → k ∉ ks) (h2 : a ∉ as) : dO o ks as a k = false := by
  unfold dO
  rw [Bool.or_eq_false_iff, Bool.and_eq_false_iff]
  constructor
  · by_cases ha : a = o
    · right
      cases hc : ks.contains k with
      | false => rfl
      | true => exact absurd (by simpa using hc) (h1 ha)
    · left
      simp [ha]
  · cases hc : as.contains a with
    | false => rfl
    | true => exact absurd (by simpa using hc) h2
/-- the class's objects are in the state S -/
def xCla (I : xIt) (J : xJt) (P : xPt) (S : Ss) : Prop := xL P ∧ (∃ o, xTr I J P o S.1 ∧ P 0 2 = S.2.1.map o) ∧ I 0 3 = S.2.2.1 ∧ I 0 4 = nI S.2.2.2.1 ∧ I 0 1 = (if S.2.2.2.2.1 = true then 1 else 0) ∧ I 0 0 = nI S.2.2.2.2.2.1.length ∧ (∀ j c, S.2.2.2.2.2.1[j]? = some c → I 2 j = nI c) ∧ xOt I S.2.2.2.2.2.2
section XFE
variable {l : Launch} {V : xV} {I : xIt} {J : xJt} {P : xPt}
theorem ms_of {a : Nat} {M : List Nat} (h : ∀ j c, M[j]? = some c → I a j = nI c) (h8 : by8 M) : xMs I a (gt M) M.length := fun j hj => by
  have hg := List.getElem?_eq_getElem hj
  refine ⟨?_, gt_256 h8 j hj⟩
  rw [gt_at hg]
  exact h j _ hg
set_option maxRecDepth 20000 in
theorem c_DS_bytesToJudge {M : List Nat} (hL : xL P) (hk : I 0 0 = nI M.length) (hM : ∀ j c, M[j]? = some c → I 2 j = nI c) (h8 : by8 M) (h1 : 1 ≤ M.length) (hl : M.length ≤ 153) : xMet l V y_DS_bytesToJudge 1 0 0 [xq (some 0)] xS0 I J P (xPi (fun r I' J' P' => I = I' ∧ J = J' ∧ P = P' ∧ r = nI (jn M))) := by
  have hm := ms_of hM h8
  refine e_DS_bytesToJudge (b_DS_bytesToJudge_0 hL ?_)
  have b0 := hm 0 (by omega)
  rw [b0.1, hk]
  refine pk_eq (gt M 0) 48 (fun z0 => pk_le 2 M.length (fun z1 => ?_) (fun z1 => ⟨rfl, rfl, rfl, by rw [jn, if_neg (by omega), if_pos (by omega)]; rfl⟩)) (fun z0 => ⟨rfl, rfl, rfl, by rw [jn, if_pos z0]; rfl⟩)
  have b1 := hm 1 (by omega)
  rw [b1.1]
  refine pk_le 128 (gt M 1) (fun z2 => pk_eq (gt M 1) 129 (fun z3 => pk_lt M.length 3 (fun z4 => ⟨rfl, rfl, rfl, by rw [jn, if_neg (by omega), if_neg (by omega), if_neg (by omega), if_neg (by omega), if_pos z4]; rfl⟩) (fun z4 => ?_)) (fun z3 => ⟨rfl, rfl, rfl, by rw [jn, if_neg (by omega), if_neg (by omega), if_neg (by omega), if_pos z3]; rfl⟩)) (fun z2 => ⟨rfl, rfl, rfl, by rw [jn, if_neg (by omega), if_neg (by omega), if_pos (by omega), show (2 : Int32) = nI 2 from rfl, nI_add]⟩)
  have b2 := hm 2 (by omega)
  rw [b2.1]
  refine pk_le (gt M 2) 150 (fun z5 => ⟨rfl, rfl, rfl, by rw [jn, if_neg (by omega), if_neg (by omega), if_neg (by omega), if_neg (by omega), if_neg (by omega), if_neg (by omega), show (3 : Int32) = nI 3 from rfl, nI_add]⟩) (fun z5 => ⟨rfl, rfl, rfl, by rw [jn, if_neg (by omega), if_neg (by omega), if_neg (by omega), if_neg (by omega), if_neg (by omega), if_pos z5]; rfl⟩)
set_option maxRecDepth 20000 in
theorem c_DS_endMessage {w : Bool} {op : Nat} (hL : xL P) (hk : w = true → I 1 3 = nI op) (hop : op < 256) : xMet l V y_DS_endMessage 3 0 0 [xq (some 0), xi (if w then 1 else 0)] xS0 I J P (xPv (fun I' J' P' => J = J' ∧ P = P' ∧ (∀ a j, ¬ (a = 0 ∧ j ≤ 1) → ¬ (a = 248 ∧ j = 1) → a ≠ 249 → I' a j = I a j) ∧ I' 0 0 = 0 ∧ I' 0 1 = (if w = true ∧ op ≠ 66 then 1 else 0) ∧ xOt I' (if w then [] else ntc))) := by
  refine e_DS_endMessage (b_DS_endMessage_0 hL ⟨_, c_AN_clear hL, ?_⟩)
  rintro I1 _ _ ⟨rfl, rfl, hs1, hO1⟩
  cases w with
  | false =>
    refine ⟨fun z => absurd rfl z, fun _ => ⟨_, c_AN_writeNotice hL hO1, ?_⟩⟩
    rintro I2 _ _ ⟨rfl, rfl, hs2, hO2⟩
    have hs := hs1.trans hs2
    refine b_DS_endMessage_23 hL ⟨fun _ => ⟨rfl, rfl, fun a j h1 h2 h3 => (xu_other (by omega)).trans ((hs a j h2 h3).trans (xu_other (by omega))), (xu_other (by omega)).trans ((hs 0 0 (by omega) (by omega)).trans xu_at), xu_at, ?_⟩, fun z => absurd rfl z⟩
    exact ⟨(xu_other (by omega)).trans hO2.1, hO2.2.1, fun i b hi => (xu_other (by omega)).trans (hO2.2.2 i b hi)⟩
  | true =>
    have hk1 : I1 1 3 = nI op := (hs1 1 3 (by omega) (by omega)).trans ((xu_other (by omega)).trans (hk rfl))
    refine ⟨fun _ => ?_, fun z => absurd z (by decide)⟩
    have fin : ∀ v, xOt (xu I1 0 1 v) [] := fun v => ⟨(xu_other (by omega)).trans hO1.1, hO1.2.1, fun i b hi => by simp at hi⟩
    have hfr : ∀ v a j, ¬ (a = 0 ∧ j ≤ 1) → ¬ (a = 248 ∧ j = 1) → a ≠ 249 → xu I1 0 1 v a j = I a j := fun v a j h1 h2 h3 => (xu_other (by omega)).trans ((hs1 a j h2 h3).trans (xu_other (by omega)))
    have h00 : ∀ v, xu I1 0 1 v 0 0 = 0 := fun v => (xu_other (by omega)).trans ((hs1 0 0 (by omega) (by omega)).trans xu_at)
    refine b_DS_endMessage_23 hL ⟨fun z => absurd z (by decide), fun _ => ?_⟩
    rw [hk1]
    refine pk_eq op 66 (fun z => ⟨rfl, rfl, hfr _, h00 _, ?_, fin _⟩) (fun z => ⟨rfl, rfl, hfr _, h00 _, ?_, fin _⟩)
    · rw [xu_at, if_neg (fun h => h.2 z)]
    · rw [xu_at, if_pos ⟨rfl, z⟩]
set_option maxRecDepth 20000 in
theorem c_DS_feed {x : Nat} {n : Int32} {S : Ss} (hx : x < 2 ^ 64) (hC : xCla I J P S) (hS : sok S) : xMet l V y_DS_feed 13 0 0 [xq (some 0), xj (lN x), xi n] xS0 I J P (xPi (fun r I' J' P' => (∀ a j, 250 ≤ a → I' a j = I a j) ∧ ((n < 1 ∨ ¬ n ≤ 8) → r = -1 ∧ xCla I' J' P' S) ∧ ∀ k : Nat, 1 ≤ k → k ≤ 8 → n = nI k → r = nI (fds (lby x k) S 0).2 ∧ xCla I' J' P' (fds (lby x k) S 0).1)) := by
  have hL := hC.1
  have loop : ∀ (k : Nat) (v4 v5 : Int32) (c k0 : Nat) (S1 : Ss) (I1 : xIt) (J1 : xJt) (P1 : xPt), k ≤ k0 → 1 ≤ k0 → k0 ≤ 8 → n = nI k0 → c + k ≤ 8 → v4 = nI c → (k = 0 → v5 < 0) → (0 < k → v5 = nI (8 * (k - 1))) → (∀ a j, 250 ≤ a → I1 a j = I a j) → xCla I1 J1 P1 S1 → sok S1 → fds (lby x k0) S 0 = fds (lby x k) S1 c → G_DS_feed l V (fun r I' J' P' => (∀ a j, 250 ≤ a → I' a j = I a j) ∧ ((n < 1 ∨ ¬ n ≤ 8) → r = -1 ∧ xCla I' J' P' S) ∧ ∀ k : Nat, 1 ≤ k → k ≤ 8 → n = nI k → r = nI (fds (lby x k) S 0).2 ∧ xCla I' J' P' (fds (lby x k) S 0).1) 24 [(0, xq (some 0)), (1, xj (lN x)), (3, xi n), (4, xi v4), (5, xi v5)] [] I1 J1 P1 := by
    intro k
    induction k with
    | zero =>
      intro v4 v5 c k0 S1 I1 J1 P1 hk hk1 hk8 hn hc hv4 h0 hp hfr hC1 hS1 hfd
      have fin : (∀ a j, 250 ≤ a → I1 a j = I a j) ∧ ((n < 1 ∨ ¬ n ≤ 8) → v4 = -1 ∧ xCla I1 J1 P1 S) ∧ ∀ k : Nat, 1 ≤ k → k ≤ 8 → n = nI k → v4 = nI (fds (lby x k) S 0).2 ∧ xCla I1 J1 P1 (fds (lby x k) S 0).1 := by
        refine ⟨hfr, fun h => ?_, fun q hq1 hq8 hqn => ?_⟩
        · exfalso
          rw [hn] at h
          rcases h with h | h
          · exact nI_nlt (b := 1) (a := k0) hk1 (by omega) h
          · exact h (nI_le (b := 8) hk8 (by omega))
        · have : q = k0 := (nI_eq (by omega) (by omega)).mp (hqn.symm.trans hn)
          subst this
          rw [hfd]
          exact ⟨hv4, hC1⟩
      exact b_DS_feed_24 hC1.1 ⟨fun _ => fin, fun z => absurd (h0 rfl) z⟩
    | succ k ih =>
      intro v4 v5 c k0 S1 I1 J1 P1 hk hk1 hk8 hn hc hv4 h0 hp hfr hC1 hS1 hfd
      have hv5 := hp (by omega)
      subst hv5
      rw [show k + 1 - 1 = k by omega]
      have hL1 := hC1.1
      obtain ⟨-, ⟨o, hT1, hb1⟩, h03, h04, h01, h00, hM, hO1⟩ := hC1
      obtain ⟨i1, i2, i3, i4, i5, i6⟩ := hS1
      have hlen := wt_len i4
      have byte : (((((lN x).toUInt64 >>> ((nI (8 * k)).toInt64.toUInt64 &&& Int64.toUInt64 63)).toInt64).toInt32) &&& 255) = nI (x / 2 ^ (8 * k) % 256) := by rw [wb_shr hx (by omega), lN_i, nI_255]
      have hbb : x / 2 ^ (8 * k) % 256 < 256 := Nat.mod_lt _ (by decide)
      have hv5n : (k = 0 → nI (8 * k) + -8 < 0) ∧ (0 < k → nI (8 * k) + -8 = nI (8 * (k - 1))) := by
        have key : ∀ k, k < 8 → (k = 0 → nI (8 * k) + -8 < 0) ∧ (0 < k → nI (8 * k) + -8 = nI (8 * (k - 1))) := by decide
        exact key k (by omega)
      refine b_DS_feed_24 hL1 ⟨fun z => absurd z (nI_pos (by omega)), fun _ => ?_⟩
      rw [h01, h00, byte, nI_1, ncl S1.2.2.2.2.2.1.length]
      rw [lby_succ, fds] at hfd
      generalize hb : x / 2 ^ (8 * k) % 256 = b at *
      by_cases hop : S1.2.2.2.2.1 = true
      · rw [if_pos hop]
        refine ⟨fun z => absurd z (by decide), fun _ => pk_le 153 S1.2.2.2.2.2.1.length (fun z => by omega) (fun _ => ⟨pk_in S1.2.2.2.2.2.1.length 153 (by omega), ?_⟩)⟩
        have hln : (S1.2.2.2.2.2.1 ++ [b]).length = S1.2.2.2.2.2.1.length + 1 := by simp
        have h8' : by8 (S1.2.2.2.2.2.1 ++ [b]) := by8_app i5 (fun q hq => by simp at hq; omega)
        have hM2 : ∀ j q, (S1.2.2.2.2.2.1 ++ [b])[j]? = some q → xu (xu I1 2 S1.2.2.2.2.2.1.length (nI b)) 0 0 (nI (S1.2.2.2.2.2.1.length + 1)) 2 j = nI q := by
          intro j q hj
          rw [xu_other (by omega)]
          by_cases hjl : j < S1.2.2.2.2.2.1.length
          · rw [List.getElem?_append_left hjl] at hj
            rw [xu_other (by omega)]; exact hM j q hj
          · rw [List.getElem?_append_right (by omega)] at hj
            have h8 : j = S1.2.2.2.2.2.1.length := by
              have := (List.getElem?_eq_some_iff.mp hj).1
              simp at this
              omega
            subst h8
            simp at hj
            subst hj
            exact xu_at
        refine ⟨_, c_DS_bytesToJudge (M := S1.2.2.2.2.2.1 ++ [b]) hL1 (by rw [xu_at, hln]) hM2 h8' (by omega) (by omega), ?_⟩
        rintro z1 I2 _ _ ⟨rfl, rfl, rfl, rfl⟩
        have hT2 : xTr (xu (xu I1 2 S1.2.2.2.2.2.1.length (nI b)) 0 0 (nI (S1.2.2.2.2.2.1.length + 1))) J1 P1 o S1.1 := hT1.keep (fun a j h1 h2 => (xu_other (by omega)).trans (xu_other (by omega))) (fun _ _ _ _ => rfl) (fun _ _ _ _ => rfl)
        have hfr2 : ∀ a j, 250 ≤ a → xu (xu I1 2 S1.2.2.2.2.2.1.length (nI b)) 0 0 (nI (S1.2.2.2.2.2.1.length + 1)) a j = I a j := fun a j h => (xu_other (by omega)).trans ((xu_other (by omega)).trans (hfr a j h))
        have hjj := jd_jn (M := S1.2.2.2.2.2.1 ++ [b]) (by omega)
        have hSn := nxt_ok (S := S1) (b := b) ⟨i1, i2, i3, i4, i5, i6⟩ hbb
        refine pk_lt (S1.2.2.2.2.2.1.length + 1) (jn (S1.2.2.2.2.2.1 ++ [b])) (fun zj => ?_) (fun zj => ?_) rfl rfl (by omega) (by have := jn_lt h8'; omega)
        · -- the message isn't whole
          have hj := hjj.mpr (by omega)
          have hnx : nxt S1 b = ((S1.1, S1.2.1, S1.2.2.1, S1.2.2.2.1, true, S1.2.2.2.2.2.1 ++ [b], S1.2.2.2.2.2.2), false) := by unfold nxt; rw [if_pos hop, hj]
          rw [hnx] at hfd hSn
          refine ih v4 _ c k0 _ _ J1 P1 (by omega) hk1 hk8 hn (by omega) hv4 hv5n.1 hv5n.2 hfr2 ?_ hSn hfd
          refine ⟨hL1, ⟨o, hT2, hb1⟩, (xu_other (by omega)).trans ((xu_other (by omega)).trans h03), (xu_other (by omega)).trans ((xu_other (by omega)).trans h04), ?_, by rw [xu_at]; show _ = nI (S1.2.2.2.2.2.1 ++ [b]).length; rw [hln], hM2, ⟨(xu_other (by omega)).trans ((xu_other (by omega)).trans hO1.1), hO1.2.1, fun i q hi => (xu_other (by omega)).trans ((xu_other (by omega)).trans (hO1.2.2 i q hi))⟩⟩
          rw [xu_other (by omega), xu_other (by omega), h01, hop]
        · -- it is judged
          obtain ⟨oo, hj⟩ : ∃ oo, jd (S1.2.2.2.2.2.1 ++ [b]) = some oo := by
            cases hj : jd (S1.2.2.2.2.2.1 ++ [b]) with
            | none => have := hjj.mp hj; omega
            | some oo => exact ⟨oo, rfl⟩
          have hdg := jd_dg i4 hj
          have hms := ms_of hM2 h8'
          have h00' : xu (xu I1 2 S1.2.2.2.2.2.1.length (nI b)) 0 0 (nI (S1.2.2.2.2.2.1.length + 1)) 0 0 = nI (S1.2.2.2.2.2.1 ++ [b]).length := by rw [xu_at, hln]
          rw [h00']
          refine ⟨_, c_RQ_decode hL1 hms (by omega), ?_⟩
          rintro z2 I2 _ _ ⟨rfl, rfl, hs2, hm2⟩
          rw [hdg] at hm2
          have k2 : ∀ a j, a = 0 ∨ a = 2 ∨ 10 ≤ a → I2 a j = xu (xu I1 2 S1.2.2.2.2.2.1.length (nI b)) 0 0 (nI (S1.2.2.2.2.2.1.length + 1)) a j := fun a j h => hs2 a j (dO_no (by omega) (by simp; omega))
          have hT3 : xTr I2 J1 P1 o S1.1 := hT2.keep (fun a j h1 h2 => k2 a j (by omega)) (fun _ _ _ _ => rfl) (fun _ _ _ _ => rfl)
          cases hq : oo.bind (fun h => fg (gt (S1.2.2.2.2.2.1 ++ [b])) h (S1.2.2.2.2.2.1 ++ [b]).length) with
          | none =>
            rw [hq] at hm2
            have hm2 : z2 = 0 := hm2
            subst hm2
            have hnx : nxt S1 b = ((S1.1, S1.2.1, S1.2.2.1, S1.2.2.2.1, false, [], ntc), true) := by unfold nxt; rw [if_pos hop, hj]; simp only; rw [hq]
            rw [hnx] at hfd hSn
            refine ⟨_, c_DS_endMessage (w := false) (op := 0) hL1 (fun h => by cases h) (by omega), ?_⟩
            rintro I3 _ _ ⟨rfl, rfl, hs3, h300, h301, hO3⟩
            have g3 : ∀ a j, ¬ (a = 0 ∧ j ≤ 1) → a = 0 ∨ 10 ≤ a → ¬ (a = 248 ∧ j = 1) → a ≠ 249 → I3 a j = I1 a j := fun a j h1 h2 h3 h4 => (hs3 a j h1 h3 h4).trans ((k2 a j (by omega)).trans ((xu_other (by omega)).trans (xu_other (by omega))))
            have hT4 : xTr I3 J1 P1 o S1.1 := hT3.keep (fun a j h1 h2 => hs3 a j (by omega) (by omega) (by omega)) (fun _ _ _ _ => rfl) (fun _ _ _ _ => rfl)
            refine ⟨fun _ => ?_, fun z => absurd (by rw [h301]; rfl) z⟩
            refine ih _ _ (c + 1) k0 _ I3 J1 P1 (by omega) hk1 hk8 hn (by omega) (by rw [hv4, nI_1]) hv5n.1 hv5n.2 (fun a j h => (g3 a j (by omega) (by omega) (by omega) (by omega)).trans (hfr a j h)) ?_ hSn hfd
            exact ⟨hL1, ⟨o, hT4, hb1⟩, (g3 0 3 (by omega) (by omega) (by omega) (by omega)).trans h03, (g3 0 4 (by omega) (by omega) (by omega) (by omega)).trans h04, h301, h300, fun j q hj => by simp at hj, hO3⟩
          | some q =>
            rw [hq] at hm2
            obtain ⟨rfl, h12, h13, hpay⟩ := hm2
            obtain ⟨h, hoh, hfg⟩ := Option.bind_eq_some_iff.mp hq
            obtain ⟨⟨d, hd1, hd2, hqd⟩, hop256, hfe, hfok⟩ := fg_ok (gt_256 h8') hfg
            have hdc : q.1.toNatClampNeg = d := by rw [hqd, ncl d]
            refine ⟨_, c_DS_endMessage (w := true) (op := q.2.1) hL1 (fun _ => h13) hop256, ?_⟩
            rintro I3 _ _ ⟨rfl, rfl, hs3, h300, h301, hO3⟩
            have hO3 : xOt I3 [] := hO3
            have g3 : ∀ a j, ¬ (a = 0 ∧ j ≤ 1) → a = 0 ∨ 10 ≤ a → ¬ (a = 248 ∧ j = 1) → a ≠ 249 → I3 a j = I1 a j := fun a j h1 h2 h3 h4 => (hs3 a j h1 h3 h4).trans ((k2 a j (by omega)).trans ((xu_other (by omega)).trans (xu_other (by omega))))
            have hT4 : xTr I3 J1 P1 o S1.1 := hT3.keep (fun a j h1 h2 => hs3 a j (by omega) (by omega) (by omega)) (fun _ _ _ _ => rfl) (fun _ _ _ _ => rfl)
            by_cases h66 : q.2.1 = 66
            · have hnx : nxt S1 b = ((S1.1, S1.2.1, S1.2.2.1, S1.2.2.2.1, false, [], []), true) := by unfold nxt; rw [if_pos hop, hj]; simp only; rw [hq]; simp only; rw [if_pos h66]
              rw [hnx] at hfd hSn
              rw [if_neg (fun h => h.2 h66)] at h301
              refine ⟨fun _ => ?_, fun z => absurd h301 z⟩
              refine ih _ _ (c + 1) k0 _ I3 J1 P1 (by omega) hk1 hk8 hn (by omega) (by rw [hv4, nI_1]) hv5n.1 hv5n.2 (fun a j h => (g3 a j (by omega) (by omega) (by omega) (by omega)).trans (hfr a j h)) ?_ hSn hfd
              exact ⟨hL1, ⟨o, hT4, hb1⟩, (g3 0 3 (by omega) (by omega) (by omega) (by omega)).trans h03, (g3 0 4 (by omega) (by omega) (by omega) (by omega)).trans h04, h301, h300, fun j q hj => by simp at hj, hO3⟩
            · rw [if_pos ⟨rfl, h66⟩] at h301
              refine ⟨fun z => absurd (z.symm.trans h301) (by decide), fun _ => ?_⟩
              have hm3 : xMs I3 2 (gt (S1.2.2.2.2.2.1 ++ [b])) (S1.2.2.2.2.2.1 ++ [b]).length := fun j hj => ⟨(hs3 2 j (by omega) (by omega) (by omega)).trans ((k2 2 j (by omega)).trans (hms j hj).1), (hms j hj).2⟩
              have hs3' : ∀ a j, 1 ≤ a → a ≤ 9 → I3 a j = I2 a j := fun a j h1 h2 => hs3 a j (by omega) (by omega) (by omega)
              have hpay3 : payC (gt (S1.2.2.2.2.2.1 ++ [b])) q.2.1 q.2.2 (S1.2.2.2.2.2.1 ++ [b]).length I3 := by
                obtain ⟨p1, p2, p3, p4, p5, p6, p7⟩ := hpay
                have tx3 : ∀ T, xTx I2 T → xTx I3 T := fun T hT => ⟨(hs3' 1 9 (by omega) (by omega)).trans hT.1, fun i q hi => ⟨(hs3' 3 i (by omega) (by omega)).trans (hT.2 i q hi).1, (hs3' 4 i (by omega) (by omega)).trans (hT.2 i q hi).2⟩⟩
                have ac3 : ∀ T, xAc I2 T → xAc I3 T := fun T hT => ⟨(hs3' 1 11 (by omega) (by omega)).trans hT.1, fun i q hi => (hs3' 5 i (by omega) (by omega)).trans (hT.2 i q hi)⟩
                refine ⟨fun h => tx3 _ (p1 h), fun h q hq => ⟨(hs3' 1 4 (by omega) (by omega)).trans (p2 h q hq).1, tx3 _ (p2 h q hq).2⟩, fun h q hq => tx3 _ (p3 h q hq), fun h q hq => ⟨tx3 _ (p4 h q hq).1, ac3 _ (p4 h q hq).2⟩, fun h q hq => ⟨tx3 _ (p5 h q hq).1, ac3 _ (p5 h q hq).2.1, (hs3' 1 5 (by omega) (by omega)).trans (p5 h q hq).2.2⟩, fun h q hq => ⟨tx3 _ (p6 h q hq).1, (hs3' 1 6 (by omega) (by omega)).trans (p6 h q hq).2⟩, fun h q hq => ⟨(p7 h q hq).1.keep (fun a j h1 h2 => hs3' a j h1 h2), (hs3' 1 5 (by omega) (by omega)).trans (p7 h q hq).2.1, (hs3' 1 4 (by omega) (by omega)).trans (p7 h q hq).2.2⟩⟩
              refine ⟨_, c_DS_perform (op := q.2.1) (f := q.2.2) (d := d) (fd := S1.2.2.2.1) (b := S1.2.1) hL1 hm3 (by omega) hfe i1 hT4 i2 hb1 hfok h66 hop256 hpay3 ((hs3' 1 3 (by omega) (by omega)).trans h13) ((hs3' 1 2 (by omega) (by omega)).trans (h12.trans hqd)) hd2 ((g3 0 4 (by omega) (by omega) (by omega) (by omega)).trans h04) hO3, ?_⟩
              rintro z4 I4 J4 P4 ⟨hL4, hf4, rfl, h404, hO4, o', hT5, hb5⟩
              have hok := prf_ok (m := gt (S1.2.2.2.2.2.1 ++ [b])) (e := (S1.2.2.2.2.2.1 ++ [b]).length) (d := d) (op := q.2.1) (f := q.2.2) (by omega) (gt_256 h8') i1 i2 i3
              have h15 := rsb_15 d q.2.1 (prf (gt (S1.2.2.2.2.2.1 ++ [b])) (S1.2.2.2.2.2.1 ++ [b]).length d q.2.1 q.2.2 S1.1 S1.2.1 S1.2.2.2.1).1
              have hnx : nxt S1 b = (((prf (gt (S1.2.2.2.2.2.1 ++ [b])) (S1.2.2.2.2.2.1 ++ [b]).length d q.2.1 q.2.2 S1.1 S1.2.1 S1.2.2.2.1).2.1, (prf (gt (S1.2.2.2.2.2.1 ++ [b])) (S1.2.2.2.2.2.1 ++ [b]).length d q.2.1 q.2.2 S1.1 S1.2.1 S1.2.2.2.1).2.2.1, nI (prf (gt (S1.2.2.2.2.2.1 ++ [b])) (S1.2.2.2.2.2.1 ++ [b]).length d q.2.1 q.2.2 S1.1 S1.2.1 S1.2.2.2.1).1, (prf (gt (S1.2.2.2.2.2.1 ++ [b])) (S1.2.2.2.2.2.1 ++ [b]).length d q.2.1 q.2.2 S1.1 S1.2.1 S1.2.2.2.1).2.2.2.1, true, [], (prf (gt (S1.2.2.2.2.2.1 ++ [b])) (S1.2.2.2.2.2.1 ++ [b]).length d q.2.1 q.2.2 S1.1 S1.2.1 S1.2.2.2.1).2.2.2.2 ++ rsb d q.2.1 (prf (gt (S1.2.2.2.2.2.1 ++ [b])) (S1.2.2.2.2.2.1 ++ [b]).length d q.2.1 q.2.2 S1.1 S1.2.1 S1.2.2.2.1).1), true) := by
                unfold nxt
                rw [if_pos hop, hj]
                simp only
                rw [hq]
                simp only
                rw [if_neg h66, hdc]
              rw [hnx] at hfd hSn
              have hO4' : xOt (xu I4 0 3 (nI (prf (gt (S1.2.2.2.2.2.1 ++ [b])) (S1.2.2.2.2.2.1 ++ [b]).length d q.2.1 q.2.2 S1.1 S1.2.1 S1.2.2.2.1).1)) (prf (gt (S1.2.2.2.2.2.1 ++ [b])) (S1.2.2.2.2.2.1 ++ [b]).length d q.2.1 q.2.2 S1.1 S1.2.1 S1.2.2.2.1).2.2.2.2 := ⟨(xu_other (by omega)).trans hO4.1, hO4.2.1, fun i q hi => (xu_other (by omega)).trans (hO4.2.2 i q hi)⟩
              rw [hf4 1 2 (by omega), hf4 1 3 (by omega), hs3' 1 2 (by omega) (by omega), hs3' 1 3 (by omega) (by omega), h12, hqd, h13]
              refine ⟨_, c_AN_writeResult hL4 hO4' hd2 hop256 (by rw [List.length_append]; omega), ?_⟩
              rintro I5 _ _ ⟨rfl, rfl, hs5, hO5⟩
              have g5 : ∀ a j, ¬ (a = 0 ∧ j = 3) → ¬ (a = 248 ∧ j = 1) → a ≠ 249 → I5 a j = I4 a j := fun a j h1 h2 h3 => (hs5 a j h2 h3).trans (xu_other h1)
              refine ih _ _ (c + 1) k0 _ I5 J4 P4 (by omega) hk1 hk8 hn (by omega) (by rw [hv4, nI_1]) hv5n.1 hv5n.2 (fun a j h => (g5 a j (by omega) (by omega) (by omega)).trans ((hf4 a j (by omega)).trans ((g3 a j (by omega) (by omega) (by omega) (by omega)).trans (hfr a j h)))) ?_ hSn hfd
              refine ⟨hL4, ⟨o', hT5.keep (fun a j h1 h2 => g5 a j (by omega) (by omega) (by omega)) (fun _ _ _ _ => rfl) (fun _ _ _ _ => rfl), hb5⟩, (hs5 0 3 (by omega) (by omega)).trans xu_at, (g5 0 4 (by omega) (by omega) (by omega)).trans h404, ?_, ?_, fun j q hj => by simp at hj, hO5⟩
              · exact (g5 0 1 (by omega) (by omega) (by omega)).trans ((hf4 0 1 (by omega)).trans h301)
              · exact (g5 0 0 (by omega) (by omega) (by omega)).trans ((hf4 0 0 (by omega)).trans h300)
      · rw [if_neg hop]
        rw [Bool.not_eq_true] at hop
        refine ⟨fun _ => ⟨hfr, fun h => ?_, fun q hq1 hq8 hqn => ?_⟩, fun z => absurd rfl z⟩
        · exfalso
          rw [hn] at h
          rcases h with h | h
          · exact nI_nlt (b := 1) (a := k0) hk1 (by omega) h
          · exact h (nI_le (b := 8) hk8 (by omega))
        · have : q = k0 := (nI_eq (by omega) (by omega)).mp (hqn.symm.trans hn)
          subst this
          have hnx : nxt S1 b = (S1, false) := by unfold nxt; rw [if_neg (by rw [hop]; decide)]
          rw [hnx, fds_closed hop] at hfd
          rw [hfd]
          refine ⟨hv4, hL1, ⟨o, hT1, hb1⟩, h03, h04, ?_, h00, hM, hO1⟩
          rw [h01]
  refine e_DS_feed (b_DS_feed_0 hL ?_)
  refine ⟨fun z => ⟨fun _ _ _ => rfl, fun _ => ⟨rfl, hC⟩, fun k hk1 hk8 hk => ?_⟩, fun z => ⟨fun z2 => ?_, fun z2 => ⟨fun _ _ _ => rfl, fun _ => ⟨rfl, hC⟩, fun k hk1 hk8 hk => ?_⟩⟩⟩
  · exfalso; rw [hk] at z; exact nI_nlt (b := 1) (a := k) hk1 (by omega) z
  · obtain ⟨k0, hk0, hn⟩ := nI_of2 (x := n) (M := 8) (n := 8) (by decide) (fun h => z (Int32.lt_of_lt_of_le h (by decide : (0 : Int32) ≤ 1))) z2
    have hk1 : 1 ≤ k0 := Classical.byContradiction fun h => z (by rw [hn, show k0 = 0 by omega]; decide)
    rw [hn, show nI k0 - 1 = nI (k0 - 1) from pk_sub (b := 1) (by omega), nI_8m]
    rw [← hn]
    exact loop k0 0 _ 0 k0 S I J P (Nat.le_refl _) hk1 hk0 hn (by omega) rfl (fun h => by omega) (fun _ => rfl) (fun _ _ _ => rfl) hC hS rfl
  · exfalso; rw [hk] at z2; exact z2 (nI_le (b := 8) hk8 (by omega))
end XFE

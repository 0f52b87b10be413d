/-! the reference: entries and their names -/
/-- the tree -/
def xRt (I : xIt) (D : List Ent) : Prop := I 250 27 = nI D.length ∧ D.length ≤ 12 ∧ ∀ (i : Nat) (x : Ent), D[i]? = some x → xRe I i x
theorem xRt.keep {I I' : xIt} {D : List Ent} (h : xRt I D) (h27 : I' 250 27 = I 250 27) (hI : ∀ a j, 258 ≤ a → a ≤ 266 → (a = 258 → j < 60) → ((a = 259 ∨ a = 261) → j < 180) → ((a = 260 ∨ a = 262) → j < 1080) → ((a = 263 ∨ a = 264 ∨ a = 265) → j < 12) → (a = 266 → j < 72) → I' a j = I a j) : xRt I' D := ⟨h27.trans h.1, h.2.1, fun i x hx => (h.2.2 i x hx).keep (fun a j hc => by
  have h12 := h.2.1
  have hi := (List.getElem?_eq_some_iff.mp hx).1
  unfold ce at hc
  exact hI a j (by omega) (by omega) (by omega) (by omega) (by omega) (by omega) (by omega))⟩
theorem xRt.keep' {I I' : xIt} {D : List Ent} (h : xRt I D) (h27 : I' 250 27 = I 250 27) (hI : ∀ a j, 258 ≤ a → a ≤ 266 → I' a j = I a j) : xRt I' D := h.keep h27 (fun a j h1 h2 _ _ _ _ _ => hI a j h1 h2)
/-- entry x bears the part p -/
def ipt (x : Ent) (p : Nat × List Nat × List Nat) : Bool := decide (x.2.1 = p.1) && decide (x.2.2.1 = p.2.2)
/-- from u upwards stand the parts L, and then the root -/
def chn (D : List Ent) : List (Nat × List Nat × List Nat) → Option Nat → Bool
  | [], u => decide (u = none)
  | _ :: _, none => false
  | p :: r, some i => match D[i]? with
    | some x => ipt x p && chn D r x.2.2.2
    | none => false
theorem chn_fdn {D : List Ent} (hq : uqs D) : ∀ (L : List (Nat × List Nat × List Nat)) (u : Option Nat), chn D L u = true ↔ fdn D L = some u := by
  intro L
  induction L with
  | nil =>
    intro u
    rw [chn, fdn]
    cases u <;> simp
  | cons p r ih =>
    intro u
    cases u with
    | none =>
      rw [chn]
      constructor
      · intro h; cases h
      · intro h; obtain ⟨c, hc⟩ := fdn_cons h; cases hc
    | some i =>
      rw [chn, fdn]
      cases hx : D[i]? with
      | none =>
        constructor
        · intro h; cases h
        · intro h
          exfalso
          obtain ⟨w, hw, h⟩ := Option.bind_eq_some_iff.mp h
          obtain ⟨j, hj, h⟩ := Option.map_eq_some_iff.mp h
          cases h
          have := chd_lt hj
          rw [List.getElem?_eq_getElem this] at hx
          cases hx
      | some x =>
        simp only [Bool.and_eq_true]
        constructor
        · rintro ⟨h1, h2⟩
          have h3 := (ih _).mp h2
          rw [h3]
          simp [ipt] at h1
          show (chd D x.2.2.2 p.1 p.2.2).map some = some (some i)
          cases hc : chd D x.2.2.2 p.1 p.2.2 with
          | none => exact absurd (show x.2 = (p.1, p.2.2, x.2.2.2) from Prod.ext h1.1 (Prod.ext h1.2 rfl)) (chd_none hc hx)
          | some k =>
            obtain ⟨y, hy, h4, h5, h6⟩ := chd_some hc
            have : k = i := hq k i y x hy hx (Prod.ext (h5.trans h1.1.symm) (Prod.ext (h6.trans h1.2.symm) h4))
            rw [this]
            rfl
        · intro h
          obtain ⟨w, hw, h⟩ := Option.bind_eq_some_iff.mp h
          obtain ⟨j, hj, h⟩ := Option.map_eq_some_iff.mp h
          cases h
          obtain ⟨y, hy, h4, h5, h6⟩ := chd_some hj
          rw [hx] at hy
          cases hy
          refine ⟨by simp [ipt, h5, h6], (ih _).mpr ?_⟩
          rw [h4]
          exact hw
/-- what entryNamed tells -/
def enN (D : List Ent) (L : List (Nat × List Nat × List Nat)) : Int32 := match fdn D L with
  | some (some k) => nI k
  | some none => -1
  | none => -2
section XRE
variable {l : Launch} {V : xV} {I : xIt} {J : xJt} {P : xPt} {D : List Ent}
set_option maxRecDepth 20000 in
theorem c_RF_isPart {e k : Nat} {x : Ent} {p : Nat × List Nat × List Nat} (hL : xL P) (he : e < 13) (hk : k < 3) (hx : xRe I e x) (h256 : I 256 k = nI p.1) (h257 : I 257 k = nI p.2.2.length) (hf : xFm I k p.2.2) (hp : p.1 < 5) (hx5 : x.2.1 < 5) (hp6 : p.2.2.length ≤ 6) (h8 : by8 p.2.2) (h8' : by8 x.2.2.1) : xMet l V y_RF_isPart 1 0 0 [xq (some 250), xi (nI e), xi (nI k)] xS0 I J P (xPi (fun r I' J' P' => I = I' ∧ J = J' ∧ P = P' ∧ r = if ipt x p = true then 1 else 0)) := by
  have hx6 := hx.2.2.2.2.1
  have no : ∀ j, ipt x p = false → G_RF_isPart l V (fun r I' J' P' => I = I' ∧ J = J' ∧ P = P' ∧ r = if ipt x p = true then 1 else 0) 39 [(0, xq (some 250)), (1, xi (nI e)), (2, xi (nI k)), (3, xi 0), (4, xi j)] [] I J P := by
    intro j hn
    have q0 : (0 : Int32) = if ipt x p = true then 1 else 0 := by rw [hn]; rfl
    refine b_RF_isPart_39 hL ⟨pk_in e 13 he, fun _ => ⟨Or.inl rfl, rfl, rfl, rfl, q0⟩, fun _ => ⟨fun _ => ⟨Or.inl rfl, rfl, rfl, rfl, q0⟩, fun z => absurd rfl z⟩⟩
  have loop : ∀ (n j : Nat), j + n = x.2.2.1.length → x.2.1 = p.1 → x.2.2.1.length = p.2.2.length → x.2.2.1.take j = p.2.2.take j → G_RF_isPart l V (fun r I' J' P' => I = I' ∧ J = J' ∧ P = P' ∧ r = if ipt x p = true then 1 else 0) 39 [(0, xq (some 250)), (1, xi (nI e)), (2, xi (nI k)), (3, xi 1), (4, xi (nI j))] [] I J P := by
    intro n
    induction n with
    | zero =>
      intro j hj ht hl htk
      rw [List.take_of_length_le (by omega), List.take_of_length_le (by omega)] at htk
      refine b_RF_isPart_39 hL ?_
      rw [ncl e, hx.2.2.2.1]
      refine ⟨pk_in e 13 he, pk_le x.2.2.1.length j (fun _ => ⟨Or.inr rfl, rfl, rfl, rfl, by rw [show ipt x p = true from by simp [ipt, ht, htk]]; rfl⟩) (fun z => by omega)⟩
    | succ n ih =>
      intro j hj ht hl htk
      have hjl : j < x.2.2.1.length := by omega
      have hjl' : j < p.2.2.length := by omega
      refine b_RF_isPart_39 hL ?_
      rw [ncl e, hx.2.2.2.1, nI_6m, nI_8m, nI_add, nI_add, nI_1, ncl (6 * e + j), ncl (8 * k + j), hx.2.2.2.2.2 j _ (List.getElem?_eq_getElem hjl), hf j _ (List.getElem?_eq_getElem hjl')]
      refine ⟨pk_in e 13 he, pk_le x.2.2.1.length j (fun z => by omega) (fun _ => ⟨fun z => absurd z (by decide), fun _ => ⟨pk_in (6 * e + j) 78 (by omega), pk_in (8 * k + j) 40 (by omega), ?_⟩⟩)⟩
      exact (pk_eq x.2.2.1[j] p.2.2[j] (fun z => ih (j + 1) (by omega) ht hl ((bytes_step hjl hl htk).mpr z)) (fun z => no _ (by
        have : x.2.2.1 ≠ p.2.2 := fun h => z (by simp only [h])
        simp [ipt, this])) rfl rfl (by have := h8' x.2.2.1[j] (List.getElem_mem hjl); omega) (by have := h8 p.2.2[j] (List.getElem_mem hjl'); omega)).symm
  refine e_RF_isPart (b_RF_isPart_0 hL ?_)
  rw [ncl e, ncl k, hx.2.2.1, hx.2.2.2.1, h256, h257]
  refine ⟨pk_in e 13 he, pk_in k 3 hk, (pk_eq x.2.1 p.1 (fun z => ⟨pk_in e 13 he, pk_in k 3 hk, (pk_eq x.2.2.1.length p.2.2.length (fun z2 => loop x.2.2.1.length 0 (by omega) z z2 rfl) (fun z2 => no _ ?_)).symm⟩) (fun z => no _ (by simp [ipt, z]))).symm⟩
  have : x.2.2.1 ≠ p.2.2 := fun h => z2 (by rw [h])
  simp [ipt, this]
set_option maxRecDepth 20000 in
theorem c_RF_entryNamed {w : Nat} {N : List (Nat × List Nat × List Nat)} (hL : xL P) (hi : inv D) (hT : xRt I D) (hN : xRn I N) (hp : wfp N) (hw : w ≤ N.length) (hw1 : w ≤ 1) : xMet l V y_RF_entryNamed 2 0 0 [xq (some 250), xi (nI w)] xS0 I J P (xPi (fun r I' J' P' => I = I' ∧ J = J' ∧ P = P' ∧ r = enN D (N.drop w))) := by
  have h12 := hT.2.1
  have h3 := hp.1
  have hq := hi.2.2.2
  have hW := hi.1
  -- over the entries
  have outer : ∀ (n e : Nat), e + n = D.length → w < N.length → (∀ i, i < e → chn D (N.drop w) (some i) = false) → G_RF_entryNamed l V (fun r I' J' P' => I = I' ∧ J = J' ∧ P = P' ∧ r = enN D (N.drop w)) 12 [(0, xq (some 250)), (1, xi (nI w)), (2, xi (nI e))] [] I J P := by
    intro n
    induction n with
    | zero =>
      intro e he hwl hn
      refine b_RF_entryNamed_12 hL (pk_le D.length e (fun _ => ⟨rfl, rfl, rfl, ?_⟩) (fun z => by omega) hT.1)
      unfold enN
      cases hf : fdn D (N.drop w) with
      | none => rfl
      | some u =>
        exfalso
        cases u with
        | none =>
          rw [List.drop_eq_getElem_cons hwl] at hf
          obtain ⟨c, hc⟩ := fdn_cons hf
          cases hc
        | some k =>
          have hk := fdn_lt hf
          have h1 := (chn_fdn hq _ _).mpr hf
          rw [hn k (by omega)] at h1
          cases h1
    | succ n ih =>
      intro e he hwl hn
      have hel : e < D.length := by omega
      have next : chn D (N.drop w) (some e) = false → G_RF_entryNamed l V (fun r I' J' P' => I = I' ∧ J = J' ∧ P = P' ∧ r = enN D (N.drop w)) 12 [(0, xq (some 250)), (1, xi (nI w)), (2, xi (nI (e + 1)))] [] I J P := fun hc => ih (e + 1) (by omega) hwl (fun i hi => by
        by_cases hie : i = e
        · rw [hie]; exact hc
        · exact hn i (by omega))
      -- up the chain
      have no : ∀ (v3 v5 : Int32), chn D (N.drop w) (some e) = false → G_RF_entryNamed l V (fun r I' J' P' => I = I' ∧ J = J' ∧ P = P' ∧ r = enN D (N.drop w)) 28 [(0, xq (some 250)), (1, xi (nI w)), (2, xi (nI e)), (3, xi v3), (4, xi 0), (5, xi v5)] [] I J P := by
        intro v3 v5 hc
        refine b_RF_entryNamed_28 hL ?_
        rw [nI_1]
        exact ⟨fun _ => ⟨fun _ => next hc, fun z => absurd rfl z⟩, fun _ => ⟨fun _ => ⟨fun _ => next hc, fun z => absurd rfl z⟩, fun z => absurd rfl z⟩⟩
      have inner : ∀ (k j : Nat) (u : Option Nat), j + k = N.length → w ≤ j → (∀ i, u = some i → i < D.length) → chn D (N.drop w) (some e) = chn D (N.drop j) u → G_RF_entryNamed l V (fun r I' J' P' => I = I' ∧ J = J' ∧ P = P' ∧ r = enN D (N.drop w)) 28 [(0, xq (some 250)), (1, xi (nI w)), (2, xi (nI e)), (3, xi (upI u)), (4, xi 1), (5, xi (nI j))] [] I J P := by
        intro k
        induction k with
        | zero =>
          intro j u hj hwj hu hx
          rw [List.drop_eq_nil_of_le (show N.length ≤ j by omega), chn] at hx
          refine b_RF_entryNamed_28 hL ?_
          rw [nI_1 e]
          refine pk_le N.length j (fun _ => ⟨fun z => absurd z (by decide), fun _ => ⟨fun z => next ?_, fun z => ⟨rfl, rfl, rfl, ?_⟩⟩⟩) (fun z => by omega) hN.1
          · rw [hx]
            cases u with
            | none => exact absurd rfl z
            | some i => rfl
          · cases u with
            | some i => exact absurd z (nI_m1 (by have := hu i rfl; omega))
            | none =>
              have h1 := (chn_fdn hq _ _).mp (hx.trans (by rfl))
              unfold enN
              rw [h1]
        | succ k ih2 =>
          intro j u hj hwj hu hx
          have hjl : j < N.length := by omega
          rw [List.drop_eq_getElem_cons hjl] at hx
          have hpj := hp.2 N[j] (List.getElem_mem hjl)
          have hnj := hN.2 j _ (List.getElem?_eq_getElem hjl)
          refine b_RF_entryNamed_28 hL ?_
          rw [nI_1 e]
          refine pk_le N.length j (fun z => by omega) (fun _ => ⟨fun z => absurd z (by decide), fun _ => ?_⟩) hN.1
          cases u with
          | none =>
            refine ⟨fun _ => ?_, fun z => absurd (by decide) z⟩
            refine b_RF_entryNamed_61 hL ⟨fun _ => no _ _ (by rw [hx]; rfl), fun z => absurd rfl z⟩
          | some i =>
            have hil := hu i rfl
            obtain ⟨x, hxi⟩ : ∃ x, D[i]? = some x := ⟨_, List.getElem?_eq_getElem hil⟩
            have hwx := hW i x hxi
            have hre := hT.2.2 i x hxi
            have hpk := po_ok hpj.2.1 hpj.2.2.1 hpj.2.2.2
            refine ⟨fun z => absurd z (nI_pos (by omega)), fun _ => ⟨_, c_RF_isPart hL (by omega) (by omega) hre hnj.1 hnj.2.1 hnj.2.2 (by omega) (by have := hwx.1.2.1; omega) hpk.1 hpk.2 hwx.1.2.2.2, ?_⟩⟩
            rintro r I1 _ _ ⟨rfl, rfl, rfl, rfl⟩
            rw [chn, hxi] at hx
            simp only at hx
            by_cases hip : ipt x N[j] = true
            · rw [if_pos hip]
              rw [hip, Bool.true_and] at hx
              refine ⟨fun z => absurd z (by decide), fun _ => b_RF_entryNamed_61 hL ⟨fun z => absurd z (by decide), fun _ => ?_⟩⟩
              rw [show upI (some i) = nI i from rfl, ncl i, hre.2.1, nI_1]
              exact ⟨pk_in i 13 (by omega), ih2 (j + 1) x.2.2.2 (by omega) (by omega) (fun v hv => by have := hwx.2 v hv; omega) hx⟩
            · rw [if_neg hip]
              rw [Bool.not_eq_true] at hip
              rw [hip, Bool.false_and] at hx
              exact ⟨fun _ => b_RF_entryNamed_61 hL ⟨fun _ => no _ _ hx, fun z => absurd rfl z⟩, fun z => absurd rfl z⟩
      refine b_RF_entryNamed_12 hL (pk_le D.length e (fun z => by omega) (fun _ => ?_) hT.1)
      exact inner (N.length - w) w (some e) (by omega) (Nat.le_refl _) (fun i hi => by cases hi; exact hel) rfl
  refine e_RF_entryNamed (b_RF_entryNamed_0 hL ((pk_eq N.length w (fun z => ⟨rfl, rfl, rfl, ?_⟩) (fun z => outer D.length 0 (by omega) (by omega) (fun i hi => by omega)) hN.1).symm))
  rw [List.drop_eq_nil_of_le (by omega)]
  rfl
end XRE

/-! the reference: rename -/
section XRN2
variable {l : Launch} {V : xV} {I : xIt} {J : xJt} {P : xPt} {m : Nat → Nat} {e : Nat} {D : List Ent}
theorem upI_inj {a b : Option Nat} (ha : ∀ w, a = some w → w < 1000) (hb : ∀ w, b = some w → w < 1000) : upI a = upI b ↔ a = b := by
  cases b with
  | some k => exact upI_eq ha (hb k rfl)
  | none =>
    cases a with
    | none => simp
    | some w =>
      constructor
      · intro h; exact absurd h (nI_m1 (by have := ha w rfl; omega))
      · intro h; cases h
theorem xRe.row {I1 : xIt} {t : Nat} {x : Ent} {R : List Vl} (h : xRe I 12 x) (ht : t < 5) (hs : ∀ a j, ¬ cr (5 * 12 + t) a j → I1 a j = I a j) (hr : xRr I1 (5 * 12 + t) R) : xRe I1 12 (setA x.1 t R, x.2) := h.c ht (fun a j h1 _ _ _ _ _ => hs a j (by rw [show 5 * 12 + t = 60 + t by omega]; exact h1)) (by rw [show 60 + t = 5 * 12 + t by omega]; exact hr)
theorem xRe.cg {k : Nat} {A B : Nat → List Vl} {y : Nat × List Nat × Option Nat} (h : xRe I k (A, y)) (hAB : ∀ t, t < 5 → A t = B t) : xRe I k (B, y) := ⟨fun t ht => by
  show xRr I (5 * k + t) (B t)
  rw [← hAB t ht]
  exact h.1 t ht, h.2⟩
set_option maxRecDepth 20000 in
theorem c_RF_rename {A B : Nat × Nat} {c : Nat} {b : Option Nat} (hL : xL P) (hm : xMs I 251 m e) (he : e ≤ 153) (hA : A.1 ≤ A.2 ∧ A.2 ≤ e) (hA30 : A.2 - A.1 ≤ 30) (hB : B.1 ≤ B.2 ∧ B.2 ≤ e) (hB30 : B.2 - B.1 ≤ 30) (hc : c < 256) (hi : inv D) (hT : xRt I D) (h11 : I 250 11 = nI c) (h12 : I 250 12 = nI A.1) (h13 : I 250 13 = nI A.2) (h14 : I 250 14 = nI B.1) (h15 : I 250 15 = nI B.2) (h37 : I 250 37 = upI b) : xMet l V y_RF_rename 5 0 0 [xq (some 250)] xS0 I J P (xPi (Qad D b (renM m A B (!decide (c = 0)) D) I J P)) := by
  have hb8 : ∀ j, j < e → m j < 256 := fun j hj => (hm j hj).2
  have hD12 := hT.2.1
  have hW := hi.1
  have fn : ∀ (Ia Ib : xIt), xSn Ia Ib → ∀ j, j ≠ 21 → j ≠ 24 → Ib 250 j = Ia 250 j := fun Ia Ib h j h1 h2 => h 250 j (by omega) (by omega) (by omega) (by omega) (by omega)
  refine e_RF_rename (b_RF_rename_0 hL ?_)
  rw [h14, h15]
  refine ⟨_, c_RF_readName (s := B.1) (e := B.2) hL (hm.le hB.2) (by omega) hB.1 hB30, ?_⟩
  rintro z1 I1 _ _ ⟨rfl, rfl, hs1, hm1⟩
  have hT1 := hT.n hs1
  have h371 : I1 250 37 = upI b := (fn _ _ hs1 37 (by omega) (by omega)).trans h37
  have bad34 : (∀ p, nr m B.1 B.2 ≠ some [p]) → Qad D b (renM m A B (!decide (c = 0)) D) I J P 34 I1 J P := by
    intro hno
    have hre : renM m A B (!decide (c = 0)) D = .inl 34 := by
      unfold renM
      split
      · rename_i p hp; exact absurd hp (hno p)
      · rfl
    exact ⟨rfl, rfl, xSq.n hs1, h371, by rw [hre]; exact ⟨rfl, hT1⟩⟩
  cases hNb : nr m B.1 B.2 with
  | none =>
    rw [hNb] at hm1
    have hm1 : z1 = -1 := hm1
    subst hm1
    exact ⟨fun _ => bad34 (fun p h => by rw [hNb] at h; cases h), fun z => absurd z (by decide)⟩
  | some M =>
    rw [hNb] at hm1
    obtain ⟨rfl, hM1, -⟩ := hm1
    have hMp := nr_ok (fun j hj => hb8 j (by omega)) hNb
    have hM3 := hMp.1
    refine (pk_eq M.length 1 (fun z => ?_) (fun z => bad34 (fun p h => by rw [hNb] at h; cases h; exact z rfl))).symm
    obtain ⟨p, rfl⟩ := List.length_eq_one_iff.mp z
    have hpp := hMp.2 p (by simp)
    have hpk := po_ok hpp.2.1 hpp.2.2.1 hpp.2.2.2
    have hpt : p.1 < 5 := by omega
    rw [fn _ _ hs1 12 (by omega) (by omega), fn _ _ hs1 13 (by omega) (by omega), h12, h13]
    have hmm1 : xMs I1 251 m e := fun j hj => ⟨(hs1 251 j (by omega) (by omega) (by omega) (by omega) (by omega)).trans (hm j hj).1, (hm j hj).2⟩
    refine ⟨_, c_RF_readName (s := A.1) (e := A.2) hL (hmm1.le hA.2) (by omega) hA.1 hA30, ?_⟩
    rintro z2 I2 _ _ ⟨rfl, rfl, hs2, hm2⟩
    have hs02 : xSn I I2 := hs1.trans hs2
    have hT2 := hT.n hs02
    have h372 : I2 250 37 = upI b := (fn _ _ hs02 37 (by omega) (by omega)).trans h37
    cases hN : nr m A.1 A.2 with
    | none =>
      rw [hN] at hm2
      have hm2 : z2 = -1 := hm2
      subst hm2
      have hre : renM m A B (!decide (c = 0)) D = .inl 34 := by simp [renM, hNb, whoM, hN]
      exact ⟨fun z => absurd z (by decide), fun _ => ⟨rfl, rfl, xSq.n hs02, h372, by rw [hre]; exact ⟨rfl, hT2⟩⟩⟩
    | some N =>
      rw [hN] at hm2
      obtain ⟨rfl, hn2, -⟩ := hm2
      have hwp := nr_ok (fun j hj => hb8 j (by omega)) hN
      have hl3 := hwp.1
      have hen := enN_who (D := D) hN
      refine ⟨fun _ => ⟨_, c_RF_entryNamed (w := 0) hL hi hT2 hn2 hwp (by omega) (by omega), ?_⟩, fun z => absurd (nI_pos' (n := N.length) (by omega)) z⟩
      rintro z3 I3 _ _ ⟨rfl, rfl, rfl, rfl⟩
      rw [List.drop_zero]
      cases hw : whoM m A D with
      | inl q =>
        have h2 := hen.2 q hw
        have hre : renM m A B (!decide (c = 0)) D = .inl 32 := by simp [renM, hNb, hw, h2.1]
        refine ⟨fun z => absurd z (by rcases h2.2 with h | h <;> rw [h] <;> decide), fun _ => ⟨rfl, rfl, xSq.n hs02, h372, by rw [hre]; exact ⟨rfl, hT2⟩⟩⟩
      | inr k =>
        have hk := whoM_lt hw
        rw [hen.1 k hw]
        obtain ⟨x, hx⟩ : ∃ x, D[k]? = some x := ⟨_, List.getElem?_eq_getElem hk⟩
        have hre : renM m A B (!decide (c = 0)) D = put1 D k (rnm D k x p (!decide (c = 0))) := by simp [renM, hNb, hw, hx]
        rw [hre]
        have hwx := (hW k x hx).1
        have hxt : x.2.1 < 5 := by have := hwx.2.1; omega
        refine ⟨fun _ => ?_, fun z => absurd (nI_pos' (n := k) (by omega)) z⟩
        rw [fn _ _ hs02 14 (by omega) (by omega), fn _ _ hs02 15 (by omega) (by omega), h14, h15]
        have hmm2 : xMs I2 251 m e := fun j hj => ⟨(hs02 251 j (by omega) (by omega) (by omega) (by omega) (by omega)).trans (hm j hj).1, (hm j hj).2⟩
        refine ⟨_, c_RF_readName (s := B.1) (e := B.2) hL (hmm2.le hB.2) (by omega) hB.1 hB30, ?_⟩
        rintro z4 I4 _ _ ⟨rfl, rfl, hs4, hm4⟩
        rw [hNb] at hm4
        obtain ⟨rfl, hn4, hgv4⟩ := hm4
        have hgv4 := hgv4 p rfl
        have hs04 : xSn I I4 := hs02.trans hs4
        have hS4 := xSq.n hs04
        have hT4 := hT.n hs04
        have h374 : I4 250 37 = upI b := (fn _ _ hs04 37 (by omega) (by omega)).trans h37
        have h114 : I4 250 11 = nI c := (fn _ _ hs04 11 (by omega) (by omega)).trans h11
        have hnp := hn4.2 0 p rfl
        have hxu : ∀ (i : Nat) (y : Ent), D[i]? = some y → ∀ w, y.2.2.2 = some w → w < 1000 := fun i y hy w hw' => by have := (hW i y hy).2 w hw'; have := (List.getElem?_eq_some_iff.mp hy).1; omega
        have hmo3 : mo p.1 ≤ 3 := by unfold mo; split <;> omega
        -- the tried entry becomes the entry
        have t268 : ∀ (I5 : xIt) (A2 : Nat → List Vl) (v3 : Int32), A2 = setA (rnA x p (!decide (c = 0))) p.1 (rnB (rnA x p (!decide (c = 0))) p) → (rnB (rnA x p (!decide (c = 0))) p).length ≤ mo p.1 → (chd D x.2.2.2 p.1 p.2.2 = none ∨ chd D x.2.2.2 p.1 p.2.2 = some k) → xSq I I5 → xRt I5 D → I5 250 37 = upI b → (∀ j, I5 256 j = I4 256 j ∧ I5 257 j = I4 257 j) → (∀ j, j < 24 → I5 255 j = I4 255 j) → xRe I5 12 (A2, x.2) → G_RF_rename l V (Qad D b (put1 D k (rnm D k x p (!decide (c = 0)))) I J P) 268 [(0, xq (some 250)), (1, xi (nI k)), (2, xi (nI 1)), (3, xi v3)] [] I5 J P := by
          intro I5 A2 v3 hA2 hlm hch hS5 hT5 h375 h2567 h255 hx5
          have hB2 := rnB_ok (rnA_ok (p := p) (g := !decide (c = 0)) hwx) hpp
          have hwA : ∀ i, i < 5 → wfr i (A2 i) := fun i hi => by
            rw [hA2]
            by_cases hit : i = p.1
            · subst hit; rw [setA_at]; exact ⟨hB2.1, hlm, hB2.2⟩
            · rw [setA_ne hit]; exact rnA_ok hwx i hi
          have hrn : rnm D k x p (!decide (c = 0)) = if fitb A2 = true then .inr (A2, p.1, p.2.2, x.2.2.2) else .inl 65 := by
            unfold rnm
            rw [if_pos hch, if_pos hlm, hA2]
          rw [hrn]
          refine b_RF_rename_268 hL ⟨_, c_RF_fits (s := 12) (A := A2) hL (by omega) hx5.1 (hwA 0 (by omega)), ?_⟩
          rintro z6 I6 _ _ ⟨rfl, rfl, hs6, rfl⟩
          have hS6 : xSq I I6 := hS5.trans (xSq.o hs6)
          have hT6 := hT5.o hs6
          have h376 : I6 250 37 = upI b := (hs6 250 37 (by omega)).trans h375
          have hx6 : xRe I6 12 (A2, x.2) := hx5.keep (fun a j hc => hs6 a j (by unfold ce at hc; omega))
          by_cases hfi : fitb A2 = true
          · rw [if_pos hfi, if_pos hfi]
            refine ⟨fun _ => ⟨_, c_RF_setPart (e := 12) (p := p) hL (by omega) ?_ ?_ ?_ hpk.1, ?_⟩, fun z => absurd z (by decide)⟩
            · rw [hs6 256 0 (by omega), (h2567 0).1]; exact hnp.1
            · rw [hs6 257 0 (by omega), (h2567 0).2]; exact hnp.2.1
            · exact hnp.2.2.far (fun j h1 h2 => by rw [hs6 255 j (by omega), h255 j (by omega)])
            rintro I7 _ _ ⟨rfl, rfl, hs7, h7a, h7b, h7c⟩
            have hfr7 : ∀ a j, ¬ ce 12 a j → I7 a j = I6 a j := fun a j h => hs7 a j (by unfold ce at h; omega) (by unfold ce at h; omega)
            have hx7 : xRe I7 12 (A2, p.1, p.2.2, x.2.2.2) := ⟨fun t ht => (hx6.1 t ht).keep (fun a j hc => hs7 a j (by unfold cr at hc; omega) (by unfold cr at hc; omega)), (hs7 263 12 (by omega) (by omega)).trans hx6.2.1, h7a, h7b, hpk.1, h7c⟩
            refine ⟨_, c_RF_copyEntry (a := 12) (b := k) hL hx7 (by omega) (by omega) (by omega), ?_⟩
            rintro I8 _ _ ⟨rfl, rfl, hs8, hx8⟩
            exact ⟨rfl, rfl, (hS6.trans (xSq.e hfr7)).trans (xSq.e hs8), (hs8 250 37 (by unfold ce; omega)).trans ((hfr7 250 37 (by unfold ce; omega)).trans h376), rfl, (hT6.e12 hfr7).put hx hs8 hx8⟩
          · rw [if_neg hfi, if_neg hfi]
            exact ⟨fun z => absurd rfl z, fun _ => ⟨rfl, rfl, hS6, h376, rfl, hT6⟩⟩
        -- the new part's value comes to the tried entry
        have t206 : ∀ (I5 : xIt) (v3 : Int32), (chd D x.2.2.2 p.1 p.2.2 = none ∨ chd D x.2.2.2 p.1 p.2.2 = some k) → xSq I I5 → xRt I5 D → I5 250 37 = upI b → (∀ j, I5 256 j = I4 256 j ∧ I5 257 j = I4 257 j) → (∀ j, j < 24 → I5 255 j = I4 255 j) → xGv I5 p.2.1 → xRe I5 12 (rnA x p (!decide (c = 0)), x.2) → G_RF_rename l V (Qad D b (put1 D k (rnm D k x p (!decide (c = 0)))) I J P) 206 [(0, xq (some 250)), (1, xi (nI k)), (2, xi (nI 1)), (3, xi v3)] [] I5 J P := by
          intro I5 v3 hch hS5 hT5 h375 h2567 h255 hgv5 hx5
          have hwA := rnA_ok (p := p) (g := !decide (c = 0)) hwx
          have hR5 := hx5.1 p.1 hpt
          have hf5 : xFm I5 0 p.2.2 := hnp.2.2.far (fun j h1 h2 => h255 j (by omega))
          refine b_RF_rename_206 hL ?_
          rw [(h2567 0).1, (h2567 0).2, hnp.1, hnp.2.1]
          refine ⟨fun z => absurd rfl z, fun _ => ⟨_, c_RF_placeOf (e := 12) (k := 0) hL hR5 hf5 (by omega) hpt (by omega) hpk.1 hpk.2 (fun v hv => (vk_pl ((hwA p.1 hpt).1 v hv)).2), ?_⟩⟩
          rintro z6 I6 _ _ ⟨rfl, rfl, rfl, rfl⟩
          have hAl := (hwA p.1 hpt).2.1
          cases hpl : plc (rnA x p (!decide (c = 0)) p.1) p.2.2 with
          | some q =>
            have hh : hs (rnA x p (!decide (c = 0)) p.1) p.2.2 = true := plc_some.mpr ⟨q, hpl⟩
            have hq3 : q < (rnA x p (!decide (c = 0)) p.1).length := plc_lt hpl
            have hrB : rnB (rnA x p (!decide (c = 0))) p = rnA x p (!decide (c = 0)) p.1 := by unfold rnB; rw [if_pos hh]
            refine ⟨fun _ => t268 I5 _ _ rfl (by rw [hrB]; exact hAl) hch hS5 hT5 h375 h2567 h255 (hx5.cg (fun t ht => ?_)), fun z => absurd (nI_pos' (n := q) (by omega)) z⟩
            by_cases hit : t = p.1
            · subst hit; rw [setA_at, hrB]
            · rw [setA_ne hit]
          | none =>
            have hh : ¬ hs (rnA x p (!decide (c = 0)) p.1) p.2.2 = true := fun h => by obtain ⟨q, hq⟩ := plc_some.mp h; rw [hpl] at hq; cases hq
            have hrB : rnB (rnA x p (!decide (c = 0))) p = rnA x p (!decide (c = 0)) p.1 ++ [p.2] := by unfold rnB; rw [if_neg hh]
            have hrl : (rnB (rnA x p (!decide (c = 0))) p).length = (rnA x p (!decide (c = 0)) p.1).length + 1 := by rw [hrB, List.length_append]; rfl
            refine ⟨fun z => absurd z (by decide), fun _ => ?_⟩
            rw [show (60 : Int32) = nI 60 from rfl, nI_add, ncl (60 + p.1)]
            refine ⟨pk_in (60 + p.1) 65 (by omega), _, c_RF_most hL hpt, ?_⟩
            rintro z7 I7 _ _ ⟨rfl, rfl, rfl, rfl⟩
            have hcnt : I5 258 (60 + p.1) = nI (rnA x p (!decide (c = 0)) p.1).length := hR5.2.1
            refine (pk_eq (rnA x p (!decide (c = 0)) p.1).length (mo p.1) (fun z => ⟨rfl, rfl, hS5, h375, ?_⟩) (fun z => ?_) hcnt rfl (by omega) (by omega)).symm
            · rw [(h2567 0).2, hnp.2.1]
              refine ⟨_, c_RF_append (e := 12) (k := 0) hL hR5 hgv5 hf5 (by omega) hpt (by omega) hpp.2.1 hpk.1 (by show (rnA x p (!decide (c = 0)) p.1).length < 3; omega), ?_⟩
              rintro I8 _ _ ⟨rfl, rfl, hs8, hr8⟩
              refine t268 I8 _ _ rfl (by omega) hch (hS5.trans (fun a j h => hs8 a j (by unfold cr; omega))) (hT5.keep (hs8 250 27 (by unfold cr; omega)) (fun a j h1 h2 h3 h4 h5 h6 h7 => hs8 a j (by unfold cr; omega))) ((hs8 250 37 (by unfold cr; omega)).trans h375) (fun j => ⟨(hs8 256 j (by unfold cr; omega)).trans (h2567 j).1, (hs8 257 j (by unfold cr; omega)).trans (h2567 j).2⟩) (fun j hj => (hs8 255 j (by unfold cr; omega)).trans (h255 j hj)) ?_
              have := hx5.row hpt hs8 hr8
              rw [show rnA x p (!decide (c = 0)) p.1 ++ [(p.2.1, p.2.2)] = rnB (rnA x p (!decide (c = 0))) p from hrB.symm] at this
              exact this
            · have hrn : rnm D k x p (!decide (c = 0)) = .inl 19 := by
                unfold rnm
                rw [if_pos hch, if_neg (by omega)]
              rw [hrn]
              exact ⟨rfl, hT5⟩
        -- the old part's value goes
        have t133 : ∀ (n j : Nat) (I5 : xIt), j + n = x.2.2.1.length → (chd D x.2.2.2 p.1 p.2.2 = none ∨ chd D x.2.2.2 p.1 p.2.2 = some k) → c ≠ 0 → ¬ (x.2.1 = p.1 ∧ x.2.2.1 = p.2.2) → xSq I I5 → xRt I5 D → I5 250 37 = upI b → (∀ j, I5 256 j = I4 256 j ∧ I5 257 j = I4 257 j) → (∀ j, j < 24 → I5 255 j = I4 255 j) → xGv I5 p.2.1 → xRe I5 12 x → xFm I5 3 (x.2.2.1.take j) → G_RF_rename l V (Qad D b (put1 D k (rnm D k x p (!decide (c = 0)))) I J P) 133 [(0, xq (some 250)), (1, xi (nI k)), (2, xi (nI 1)), (3, xi (nI j))] [] I5 J P := by
          intro n
          induction n with
          | zero =>
            intro j I5 hj hch hc0 hne hS5 hT5 h375 h2567 h255 hgv5 hx5 hf5
            rw [List.take_of_length_le (by omega)] at hf5
            have hx6 := hwx.2.2.1
            have hxe := hT5.2.2 k x hx
            have hrA : rnA x p (!decide (c = 0)) = setA x.1 x.2.1 ((x.1 x.2.1).filter (fun y => !(y.2 == x.2.2.1))) := by
              unfold rnA
              rw [if_pos ⟨by simp [hc0], hne⟩]
            refine b_RF_rename_133 hL ?_
            rw [ncl k, hxe.2.2.1, hxe.2.2.2.1]
            refine ⟨pk_in k 13 (by omega), pk_le x.2.2.1.length j (fun _ => ⟨pk_in k 13 (by omega), pk_in k 13 (by omega), _, c_RF_placeOf (e := 12) (k := 3) hL (hx5.1 x.2.1 hxt) hf5 (by omega) hxt (by omega) hwx.2.2.1 hwx.2.2.2 (fun v hv => (vk_pl ((hwx.1 x.2.1 hxt).1 v hv)).2), ?_⟩) (fun z => by omega)⟩
            rintro z6 I6 _ _ ⟨rfl, rfl, rfl, rfl⟩
            cases hpl : plc (x.1 x.2.1) x.2.2.1 with
            | none =>
              refine ⟨fun _ => t206 I5 _ hch hS5 hT5 h375 h2567 h255 hgv5 ?_, fun z => absurd (by decide) z⟩
              rw [hrA, filter_none hpl]
              exact xRe.cg (A := x.1) hx5 (fun t ht => by
                by_cases hit : t = x.2.1
                · subst hit; rw [setA_at]
                · rw [setA_ne hit])
            | some q =>
              have hq3 := plc_lt hpl
              have hr3 := (hx5.1 x.2.1 hxt).1
              refine ⟨fun z => absurd z (nI_pos (n := q) (by omega)), fun _ => ⟨pk_in k 13 (by omega), ?_⟩⟩
              rw [hxe.2.2.1]
              refine ⟨_, c_RF_takeAway (e := 12) hL (hx5.1 x.2.1 hxt) (by omega) hxt hq3, ?_⟩
              rintro I8 _ _ ⟨rfl, rfl, hs8, hr8⟩
              refine t206 I8 _ hch (hS5.trans (fun a j h => hs8 a j (by unfold cr; omega))) (hT5.keep (hs8 250 27 (by unfold cr; omega)) (fun a j h1 h2 h3 h4 h5 h6 h7 => hs8 a j (by unfold cr; omega))) ((hs8 250 37 (by unfold cr; omega)).trans h375) (fun j => ⟨(hs8 256 j (by unfold cr; omega)).trans (h2567 j).1, (hs8 257 j (by unfold cr; omega)).trans (h2567 j).2⟩) (fun j hj => (hs8 255 j (by unfold cr; omega)).trans (h255 j hj)) ⟨(hs8 250 21 (by unfold cr; omega)).trans hgv5.1, hgv5.2.far (fun j _ _ => hs8 254 j (by unfold cr; omega))⟩ ?_
              rw [hrA, ← erase_filter (hwx.1 x.2.1 hxt).2.2 hpl]
              exact hx5.row hxt hs8 hr8
          | succ n ih =>
            intro j I5 hj hch hc0 hne hS5 hT5 h375 h2567 h255 hgv5 hx5 hf5
            have hjl : j < x.2.2.1.length := by omega
            have hx6 := hwx.2.2.1
            have hxe := hT5.2.2 k x hx
            refine b_RF_rename_133 hL ?_
            rw [ncl k, hxe.2.2.2.1, nI_6m, nI_add, show (24 : Int32) = nI 24 from rfl, nI_add, nI_1, ncl (6 * k + j), ncl (24 + j), hxe.2.2.2.2.2 j _ (List.getElem?_eq_getElem hjl)]
            refine ⟨pk_in k 13 (by omega), pk_le x.2.2.1.length j (fun z => by omega) (fun _ => ⟨pk_in (6 * k + j) 78 (by omega), pk_in (24 + j) 40 (by omega), ih (j + 1) _ (by omega) hch hc0 hne (fun a i h => (xu_other (by omega)).trans (hS5 a i h)) (hT5.keep' (xu_other (by omega)) (fun a i h1 h2 => xu_other (by omega))) ((xu_other (by omega)).trans h375) (fun i => ⟨(xu_other (by omega)).trans (h2567 i).1, (xu_other (by omega)).trans (h2567 i).2⟩) (fun i hi => (xu_other (by omega)).trans (h255 i hi)) ⟨(xu_other (by omega)).trans hgv5.1, hgv5.2.far (fun i _ _ => xu_other (by omega))⟩ (hx5.keep (fun a i hc => xu_other (by unfold ce at hc; omega))) (fun i b hi => ?_)⟩)⟩
            rw [List.take_succ, List.getElem?_eq_getElem hjl] at hi
            by_cases hij : i < j
            · rw [List.getElem?_append_left (by rw [List.length_take]; omega)] at hi
              rw [xu_other (by omega)]; exact hf5 i b hi
            · rw [List.getElem?_append_right (by rw [List.length_take]; omega)] at hi
              have h8 : i = j := by
                have := (List.getElem?_eq_some_iff.mp hi).1
                simp at this
                omega
              subst h8
              rw [List.length_take, Nat.min_eq_left (by omega), Nat.sub_self] at hi
              simp at hi
              subst hi
              rw [xu_at]
        -- does another entry beside it bear the part
        have hipx : ∀ (i : Nat) (y : Ent) (Iz : xIt), D[i]? = some y → xRt Iz D → (∀ j, Iz 256 j = I4 256 j ∧ Iz 257 j = I4 257 j) → (∀ j, j < 24 → Iz 255 j = I4 255 j) → xMet l V y_RF_isPart 1 0 0 [xq (some 250), xi (nI i), xi 0] xS0 Iz J P (xPi (fun r I' J' P' => Iz = I' ∧ J = J' ∧ P = P' ∧ r = if ipt y p = true then 1 else 0)) := by
          intro i y Iz hy hTz h2567 h255
          have hyw := (hW i y hy).1
          have hil := (List.getElem?_eq_some_iff.mp hy).1
          exact c_RF_isPart (k := 0) hL (by omega) (by omega) (hTz.2.2 i y hy) ((h2567 0).1.trans hnp.1) ((h2567 0).2.trans hnp.2.1) (hnp.2.2.far (fun j h1 h2 => h255 j (by omega))) hpt (by have := hyw.2.1; omega) hpk.1 hpk.2 hyw.2.2.2
        have t62 : ∀ (n i : Nat), i + n = D.length → (∀ (j : Nat) (y : Ent), j < i → D[j]? = some y → j ≠ k → y.2.2.2 = x.2.2.2 → ipt y p = false) → G_RF_rename l V (Qad D b (put1 D k (rnm D k x p (!decide (c = 0)))) I J P) 62 [(0, xq (some 250)), (1, xi (nI k)), (2, xi (nI 1)), (3, xi (nI i))] [] I4 J P := by
          intro n
          induction n with
          | zero =>
            intro i hin hno
            have hch : chd D x.2.2.2 p.1 p.2.2 = none ∨ chd D x.2.2.2 p.1 p.2.2 = some k := by
              cases hcd : chd D x.2.2.2 p.1 p.2.2 with
              | none => exact Or.inl rfl
              | some q =>
                right
                obtain ⟨y, hy, h1, h2, h3⟩ := chd_some hcd
                by_cases hqk : q = k
                · rw [hqk]
                · have := hno q y (by have := (List.getElem?_eq_some_iff.mp hy).1; omega) hy hqk h1
                  simp [ipt, h2, h3] at this
            refine b_RF_rename_62 hL (pk_le D.length i (fun _ => ⟨_, c_RF_copyEntry (a := k) (b := 12) hL (hT4.2.2 k x hx) (by omega) (by omega) (by omega), ?_⟩) (fun z => by omega) hT4.1)
            rintro I5 _ _ ⟨rfl, rfl, hs5, hx5⟩
            have hS5 : xSq I I5 := hS4.trans (xSq.e hs5)
            have hT5 := hT4.e12 hs5
            have h375 : I5 250 37 = upI b := (hs5 250 37 (by unfold ce; omega)).trans h374
            have h2567 : ∀ j, I5 256 j = I4 256 j ∧ I5 257 j = I4 257 j := fun j => ⟨hs5 256 j (by unfold ce; omega), hs5 257 j (by unfold ce; omega)⟩
            have h255 : ∀ j, j < 24 → I5 255 j = I4 255 j := fun j _ => hs5 255 j (by unfold ce; omega)
            have hgv5 : xGv I5 p.2.1 := ⟨(hs5 250 21 (by unfold ce; omega)).trans hgv4.1, hgv4.2.far (fun j _ _ => hs5 254 j (by unfold ce; omega))⟩
            have h115 : I5 250 11 = nI c := (hs5 250 11 (by unfold ce; omega)).trans h114
            rw [h115]
            refine pk_eq c 0 (fun z0 => t206 I5 _ hch hS5 hT5 h375 h2567 h255 hgv5 ?_) (fun z0 => ⟨_, hipx k x I5 hx hT5 h2567 h255, ?_⟩)
            · rw [show rnA x p (!decide (c = 0)) = x.1 from by unfold rnA; rw [if_neg (by simp [z0])]]
              exact hx5
            · rintro z6 I6 _ _ ⟨rfl, rfl, rfl, rfl⟩
              by_cases hip : ipt x p = true
              · rw [if_pos hip]
                have hne : x.2.1 = p.1 ∧ x.2.2.1 = p.2.2 := by simpa [ipt] using hip
                refine ⟨fun _ => t206 I5 _ hch hS5 hT5 h375 h2567 h255 hgv5 ?_, fun z => absurd z (by decide)⟩
                rw [show rnA x p (!decide (c = 0)) = x.1 from by unfold rnA; rw [if_neg (fun h => h.2 hne)]]
                exact hx5
              · rw [if_neg hip]
                have hne : ¬ (x.2.1 = p.1 ∧ x.2.2.1 = p.2.2) := fun h => hip (by simp [ipt, h.1, h.2])
                exact ⟨fun z => absurd rfl z, fun _ => t133 x.2.2.1.length 0 I5 (by omega) hch z0 hne hS5 hT5 h375 h2567 h255 hgv5 hx5 (fun i b hi => by simp at hi)⟩
          | succ n ih =>
            intro i hin hno
            obtain ⟨y, hy⟩ : ∃ y, D[i]? = some y := ⟨_, List.getElem?_eq_getElem (by omega)⟩
            have next : (i ≠ k → y.2.2.2 = x.2.2.2 → ipt y p = false) → G_RF_rename l V (Qad D b (put1 D k (rnm D k x p (!decide (c = 0)))) I J P) 62 [(0, xq (some 250)), (1, xi (nI k)), (2, xi (nI 1)), (3, xi (nI (i + 1)))] [] I4 J P := fun h => ih (i + 1) (by omega) (fun j w hj hw' h1 h2 => by
              by_cases hji : j = i
              · subst hji
                rw [hy] at hw'
                cases hw'
                exact h h1 h2
              · exact hno j w (by omega) hw' h1 h2)
            refine b_RF_rename_62 hL (pk_le D.length i (fun z => by omega) (fun _ => ?_) hT4.1)
            rw [nI_1]
            refine pk_eq i k (fun z => next (fun h => absurd z h)) (fun z => ⟨pk_in i 13 (by omega), pk_in k 13 (by omega), ?_⟩)
            rw [ncl i, ncl k, (hT4.2.2 i y hy).2.1, (hT4.2.2 k x hx).2.1]
            refine ⟨fun z2 => next (fun _ h => absurd (by rw [h]) z2), fun z2 => ⟨_, hipx i y I4 hy hT4 (fun _ => ⟨rfl, rfl⟩) (fun _ _ => rfl), ?_⟩⟩
            rintro z6 I6 _ _ ⟨rfl, rfl, rfl, rfl⟩
            have hup : y.2.2.2 = x.2.2.2 := (upI_inj (hxu i y hy) (hxu k x hx)).mp z2
            by_cases hip : ipt y p = true
            · rw [if_pos hip]
              refine ⟨fun z => absurd z (by decide), fun _ => ⟨rfl, rfl, hS4, h374, ?_⟩⟩
              have hyp : y.2.1 = p.1 ∧ y.2.2.1 = p.2.2 := by simpa [ipt] using hip
              have hrn : rnm D k x p (!decide (c = 0)) = .inl 68 := by
                unfold rnm
                rw [if_neg]
                intro h
                rcases h with h | h
                · exact absurd (show y.2 = (p.1, p.2.2, x.2.2.2) from Prod.ext hyp.1 (Prod.ext hyp.2 hup)) (chd_none h hy)
                · obtain ⟨w, hw', h1, h2, h3⟩ := chd_some h
                  exact z (hi.2.2.2 i k y w hy hw' (Prod.ext (hyp.1.trans h2.symm) (Prod.ext (hyp.2.trans h3.symm) (hup.trans h1.symm))))
              rw [hrn]
              exact ⟨rfl, hT4⟩
            · rw [if_neg hip]
              rw [Bool.not_eq_true] at hip
              exact ⟨fun _ => next (fun _ _ => hip), fun z => absurd rfl z⟩
        exact t62 D.length 0 (by omega) (fun j y hj => by omega)
end XRN2

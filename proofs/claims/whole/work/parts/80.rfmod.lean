/-! the reference: change, modify -/
theorem erase_filter : ∀ {R : List Vl} {p : List Nat} {q : Nat}, (R.map (fun v => v.2)).Nodup → plc R p = some q → R.eraseIdx q = R.filter (fun x => !(x.2 == p)) := by
  intro R
  induction R with
  | nil => intro p q _ h; simp [plc] at h
  | cons v R ih =>
    intro p q hn h
    rw [List.map_cons, List.nodup_cons] at hn
    unfold plc at h
    rw [List.findIdx?_cons] at h
    by_cases hv : v.2 = p
    · have hb : (v.2 == p) = true := by simp [hv]
      rw [hb] at h
      simp at h
      subst h
      rw [List.eraseIdx_cons_zero, List.filter_cons_of_neg (by simp [hv])]
      symm
      rw [List.filter_eq_self]
      intro x hx
      have : x.2 ≠ p := fun h => hn.1 (List.mem_map.mpr ⟨x, hx, by rw [h, hv]⟩)
      simp [this]
    · have hb : (v.2 == p) = false := by simp [hv]
      rw [hb] at h
      simp only [Bool.false_eq_true, if_false] at h
      obtain ⟨q', hq', rfl⟩ := Option.map_eq_some_iff.mp h
      rw [List.eraseIdx_cons_succ, List.filter_cons_of_pos (by simp [hv]), ih hn.2 hq']
theorem filter_none {R : List Vl} {p : List Nat} (h : plc R p = none) : R.filter (fun x => !(x.2 == p)) = R := by
  rw [List.filter_eq_self]
  intro x hx
  have := List.findIdx?_eq_none_iff.mp h x hx
  simp only [this]
  rfl
theorem wfr_filter {t : Nat} {R : List Vl} {f : Vl → Bool} (h : wfr t R) : wfr t (R.filter f) := ⟨fun v hv => h.1 v (List.mem_filter.mp hv).1, Nat.le_trans (List.length_filter_le _ _) h.2.1, List.Nodup.sublist (List.Sublist.map _ List.filter_sublist) h.2.2⟩
theorem hs_snoc (S : List Vl) (v : Vl) (q : List Nat) : hs (S ++ [v]) q = (hs S q || (v.2 == q)) := by simp [hs]
section XRM
variable {l : Launch} {V : xV} {I : xIt} {J : xJt} {P : xPt} {m : Nat → Nat} {e : Nat} {D : List Ent}
/-- nothing but the tried row of type t, the values' places and the held text changed -/
def xSc (t : Nat) (I I' : xIt) : Prop := ∀ a j, ¬ cr (60 + t) a j → ¬ (a = 250 ∧ ((3 ≤ j ∧ j ≤ 6) ∨ j = 18 ∨ j = 21)) → a ≠ 252 → a ≠ 253 → a ≠ 254 → ¬ (a = 255 ∧ 24 ≤ j) → I' a j = I a j
theorem xSc.trans {t : Nat} {I I1 I2 : xIt} (h : xSc t I I1) (h2 : xSc t I1 I2) : xSc t I I2 := fun a j h3 h4 h5 h6 h7 h8 => (h2 a j h3 h4 h5 h6 h7 h8).trans (h a j h3 h4 h5 h6 h7 h8)
def Qch (c t : Nat) (R S : List Vl) (I : xIt) (J : xJt) (P : xPt) : Int32 → xIt → xJt → xPt → Prop := fun r I' J' P' => J = J' ∧ P = P' ∧ xSc t I I' ∧ match chg c t R S with
  | .inl k => r = nI k
  | .inr R' => r = 0 ∧ xRr I' (60 + t) R'
set_option maxRecDepth 20000 in
theorem c_RF_change {c t p0 : Nat} {L : List (Nat × Nat)} {R S : List Vl} (hL : xL P) (hm : xMs I 251 m e) (he : e ≤ 153) (hp0 : p0 ≤ e) (hc2 : c ≤ 2) (ht : t < 5) (h11 : I 250 11 = nI c) (h16 : I 250 16 = nI p0) (h17 : I 250 17 = nI e) (hLv : vl m 8 p0 e = some L) (hrd : rdv m t L [] = .inr S) (hR : xRr I (60 + t) R) (hwR : wfr t R) : xMet l V y_RF_change 5 0 0 [xq (some 250), xi (nI t)] xS0 I J P (xPi (Qch c t R S I J P)) := by
  have hb8 : ∀ j, j < e → m j < 256 := fun j hj => (hm j hj).2
  have hvo := vl_ok _ _ _ _ hLv
  have h30 := vl_30 _ _ _ _ hLv
  have hqe : ∀ q ∈ L, q.1 ≤ q.2 ∧ q.2 ≤ e := fun q hq' => by have := hvo.2 q hq'; omega
  obtain ⟨S', hS, hSl, hSv⟩ := rdv_val hrd
  rw [List.nil_append] at hS
  subst hS
  have hok := rdv_ok (fun q hq' j hj => hb8 j (by have := (hqe q hq').2; omega)) (fun v hv => by cases hv) (by simp) hrd
  have hmo3 : mo t ≤ 3 := by unfold mo; split <;> omega
  have hRl := hwR.2.1
  have h60 : 60 + t = 5 * 12 + t := by omega
  refine e_RF_change (b_RF_change_0 hL ?_)
  rw [h16, h17]
  refine ⟨_, c_RF_listValues (p := p0) (e := e) hL hm (by omega) (by omega), ?_⟩
  rintro z1 I1 _ _ ⟨rfl, rfl, hs1, hm1⟩
  rw [hLv] at hm1
  obtain ⟨rfl, h8, h18, hvs⟩ := hm1
  have hS1 : xSc t I I1 := fun a j h1 h2 h3 h4 h5 h6 => hs1 a j (dF_no (by intro h; simp; omega) (by simp; omega))
  have h111 : I1 250 11 = nI c := (hS1 250 11 (by unfold cr; omega) (by omega) (by omega) (by omega) (by omega) (by omega)).trans h11
  have hR1 : xRr I1 (60 + t) R := hR.keep (fun a j hc => hs1 a j (dF_no (by unfold cr at hc; omega) (by unfold cr at hc; simp; omega)))
  have hm1 : xMs I1 251 m e := fun j hj => ⟨(hS1 251 j (by unfold cr; omega) (by omega) (by omega) (by omega) (by omega) (by omega)).trans (hm j hj).1, (hm j hj).2⟩
  refine ⟨fun _ => ?_, fun z => absurd z (by decide)⟩
  rw [show (60 : Int32) = nI 60 from rfl, nI_add, ncl (60 + t), h111, hR1.2.1, h18]
  refine ⟨pk_in (60 + t) 65 (by omega), ?_⟩
  -- the row is written anew
  have t84 : c = 2 ∨ (c = 1 ∧ L.length = 0 ∧ R.length ≠ 0) → G_RF_change l V (Qch c t R S I J P) 84 [(0, xq (some 250)), (1, xi (nI t)), (2, xi 1), (3, xi (nI R.length))] [] I1 J P := by
    intro hcc
    have hchg : chg c t R S = if S.length ≤ mo t then .inr S else .inl 19 := by
      unfold chg
      rcases hcc with h | ⟨h, h0, hr0⟩
      · rw [if_neg (by omega), if_neg (by omega)]
      · have hS0 : S = [] := List.eq_nil_of_length_eq_zero (by omega)
        rw [if_pos h, if_neg hr0, hS0]
        simp
    refine b_RF_change_84 hL ⟨_, c_RF_most hL ht, ?_⟩
    rintro z2 I2 _ _ ⟨rfl, rfl, rfl, rfl⟩
    rw [show (60 : Int32) = nI 60 from rfl, nI_add, ncl (60 + t)]
    refine pk_le L.length (mo t) (fun z => ⟨pk_in (60 + t) 65 (by omega), ?_⟩) (fun z => ⟨rfl, rfl, hS1, by rw [hchg, if_neg (by omega)]; rfl⟩) h18 rfl (by omega) (by omega)
    have hR0 : xRr (xu I1 258 (60 + t) 0) (5 * 12 + t) [] := ⟨by simp, by rw [← h60, xu_at]; rfl, fun q v hq => by simp at hq⟩
    refine ⟨_, c_RF_appendValues (s := 12) (S := S) (L := L) hL (fun j hj => ⟨(xu_other (by omega)).trans (hm1 j hj).1, (hm1 j hj).2⟩) (by omega) ht (by omega) ((xu_other (by omega)).trans h18) (fun i q hi => ⟨(xu_other (by omega)).trans (hvs i q hi).1, (xu_other (by omega)).trans (hvs i q hi).2⟩) h8 hqe h30 hR0 hSl hSv (by simp; omega), ?_⟩
    rintro I3 _ _ ⟨rfl, rfl, hs3, hr3⟩
    rw [List.nil_append, ← h60] at hr3
    rw [← h60] at hs3
    refine ⟨rfl, rfl, fun a j h1 h2 h3 h4 h5 h6 => (hs3 a j h1 (by omega) h5 h6).trans ((xu_other (by unfold cr at h1; omega)).trans (hS1 a j h1 h2 h3 h4 h5 h6)), ?_⟩
    rw [hchg, if_pos (by omega)]
    exact ⟨rfl, hr3⟩
  -- value by value
  have t120 : ∀ (n k : Nat) (Rk : List Vl) (I2 : xIt), k + n = L.length → (c = 0 ∨ c = 1) → xSc t I1 I2 → (∀ j, I2 252 j = I1 252 j) → (∀ j, I2 253 j = I1 253 j) → I2 250 18 = nI L.length → xRr I2 (60 + t) Rk → wfr t Rk → (c = 0 → Rk = R ∧ L.length ≠ 0 ∧ (S.take k).any (fun y => hs R y.2) = false) → (c = 1 → R.length ≠ 0 ∧ L.length ≠ 0 ∧ Rk = R.filter (fun x => !hs (S.take k) x.2) ∧ (S.take k).all (fun y => hs R y.2) = true) → G_RF_change l V (Qch c t R S I J P) 120 [(0, xq (some 250)), (1, xi (nI t)), (2, xi 1), (3, xi (nI R.length)), (4, xi (nI k))] [] I2 J P := by
    intro n
    induction n with
    | zero =>
      intro k Rk I2 hk h01 hs2 h252 h253 h182 hr2 hw2 hc0 hc1
      have hS2 : xSc t I I2 := hS1.trans hs2
      have h112 : I2 250 11 = nI c := (hs2 250 11 (by unfold cr; omega) (by omega) (by omega) (by omega) (by omega) (by omega)).trans h111
      have htk : S.take k = S := List.take_of_length_le (by omega)
      refine b_RF_change_120 hL (pk_le L.length k (fun _ => ?_) (fun z => by omega) h182)
      rw [h112]
      refine (pk_eq c 1 (fun z => ?_) (fun z => ?_)).symm
      · obtain ⟨hr0, hl0, hRk, hall⟩ := hc1 z
        rw [htk] at hRk hall
        refine ⟨rfl, rfl, hS2, ?_⟩
        have hchg : chg c t R S = .inr Rk := by
          unfold chg
          rw [if_pos z, if_neg hr0, if_pos hall, if_neg (by omega), hRk]
        rw [hchg]
        exact ⟨rfl, hr2⟩
      · obtain ⟨hRk, hl0, hany⟩ := hc0 (by omega)
        rw [htk] at hany
        subst hRk
        refine ⟨_, c_RF_most hL ht, ?_⟩
        rintro z2 I3 _ _ ⟨rfl, rfl, rfl, rfl⟩
        rw [h182, nI_add]
        have hchg : chg c t Rk S = if Rk.length + S.length ≤ mo t then .inr (Rk ++ S) else .inl 19 := by
          unfold chg
          rw [if_neg z, if_pos (by omega), if_neg (by omega), if_neg (by rw [hany]; decide)]
        refine pk_le (Rk.length + L.length) (mo t) (fun z2 => ?_) (fun z2 => ⟨rfl, rfl, hS2, by rw [hchg, if_neg (by omega)]; rfl⟩) rfl rfl (by omega) (by omega)
        have hr2' := hr2
        rw [h60] at hr2'
        refine ⟨_, c_RF_appendValues (s := 12) (S := S) (L := L) hL (fun j hj => ⟨(hs2 251 j (by unfold cr; omega) (by omega) (by omega) (by omega) (by omega) (by omega)).trans (hm1 j hj).1, (hm1 j hj).2⟩) (by omega) ht (by omega) h182 (fun i q hi => ⟨(h252 i).trans (hvs i q hi).1, (h253 i).trans (hvs i q hi).2⟩) h8 hqe h30 hr2' hSl hSv (by omega), ?_⟩
        rintro I3 _ _ ⟨rfl, rfl, hs3, hr3⟩
        rw [← h60] at hr3 hs3
        refine ⟨rfl, rfl, fun a j h1 h2 h3 h4 h5 h6 => (hs3 a j h1 (by omega) h5 h6).trans (hS2 a j h1 h2 h3 h4 h5 h6), ?_⟩
        rw [hchg, if_pos (by omega)]
        exact ⟨rfl, hr3⟩
    | succ n ih =>
      intro k Rk I2 hk h01 hs2 h252 h253 h182 hr2 hw2 hc0 hc1
      have hkl : k < L.length := by omega
      have hgk := List.getElem?_eq_getElem hkl
      have hqk := hqe L[k] (List.getElem_mem hkl)
      have h30k := h30 L[k] (List.getElem_mem hkl)
      obtain ⟨v, hv1, hv2⟩ := hSv k _ hgk
      have hm2 : xMs I2 251 m e := fun j hj => ⟨(hs2 251 j (by unfold cr; omega) (by omega) (by omega) (by omega) (by omega) (by omega)).trans (hm1 j hj).1, (hm1 j hj).2⟩
      refine b_RF_change_120 hL (pk_le L.length k (fun z => by omega) (fun _ => ⟨pk_in k 8 (by omega), pk_in k 8 (by omega), ?_⟩) h182)
      rw [ncl k, h252 k, h253 k, (hvs k _ hgk).1, (hvs k _ hgk).2]
      refine ⟨_, c_RF_load hL hm2 (by omega) hqk (by omega), ?_⟩
      rintro I3 _ _ ⟨rfl, rfl, hs3, hg3⟩
      have hsb : by8 (sub m L[k].1 L[k].2) := sub_by8 (fun j hj => hb8 j (by omega))
      refine ⟨_, c_RF_formOf (k := 3) hL hg3 (by rw [sub_len]; omega) hsb ht (by omega), ?_⟩
      rintro z4 I4 _ _ ⟨rfl, rfl, hs4, rfl, hf4⟩
      rw [val_fo] at hv2
      obtain ⟨p, hfo, hve⟩ := Option.map_eq_some_iff.mp hv2
      have hvp : v.2 = p := by rw [← hve]
      have hp6 := fo_ok hsb hfo
      have hf4 := hf4 p hfo
      have hr4 : xRr I4 (60 + t) Rk := hr2.keep (fun a j hc => (hs4 a j (by unfold cr at hc; omega)).trans (hs3 a j (by unfold cr at hc; omega) (by unfold cr at hc; omega)))
      have hr4' := hr4
      rw [h60] at hr4'
      rw [hfo, show oln (some p) = nI p.length from rfl]
      refine ⟨_, c_RF_placeOf (e := 12) (k := 3) hL hr4' hf4 (by omega) ht (by omega) hp6.1 hp6.2.1 (fun w hw => (vk_pl (hw2.1 w hw)).2), ?_⟩
      rintro z5 I5 _ _ ⟨rfl, rfl, rfl, rfl⟩
      have hs24 : xSc t I1 I4 := hs2.trans (fun a j h1 h2 h3 h4 h5 h6 => (hs4 a j (by omega)).trans (hs3 a j (by omega) h5))
      have hS4 : xSc t I I4 := hS1.trans hs24
      have h114 : I4 250 11 = nI c := (hs24 250 11 (by unfold cr; omega) (by omega) (by omega) (by omega) (by omega) (by omega)).trans h111
      have h184 : I4 250 18 = nI L.length := (hs4 250 18 (by omega)).trans ((hs3 250 18 (by omega) (by omega)).trans h182)
      have h2524 : ∀ j, I4 252 j = I1 252 j := fun j => (hs4 252 j (by omega)).trans ((hs3 252 j (by omega) (by omega)).trans (h252 j))
      have h2534 : ∀ j, I4 253 j = I1 253 j := fun j => (hs4 253 j (by omega)).trans ((hs3 253 j (by omega) (by omega)).trans (h253 j))
      have htk : S.take (k + 1) = S.take k ++ [v] := by rw [List.take_succ, hv1]; rfl
      have hvm : v ∈ S := List.mem_of_getElem? hv1
      rw [h114]
      rcases h01 with hc | hc
      · obtain ⟨hRk, hl0, hany⟩ := hc0 hc
        subst hRk
        have n01 : ¬ nI c = 1 := by rw [hc]; decide
        refine ⟨fun z => absurd (by rw [hc]; rfl) z, fun _ => ?_⟩
        cases hpl : plc Rk p with
        | none =>
          have hh : hs Rk p = false := by
            cases hb : hs Rk p with
            | false => rfl
            | true => obtain ⟨q, hq⟩ := plc_some.mp hb; rw [hpl] at hq; cases hq
          refine ⟨fun _ => ⟨fun _ => b_RF_change_198 hL ?_, fun z => absurd z n01⟩, fun z => absurd (by decide) z⟩
          rw [h114, nI_1]
          refine ⟨fun _ => ih (k + 1) Rk I4 (by omega) (Or.inl hc) hs24 h2524 h2534 h184 hr4 hw2 (fun _ => ⟨rfl, hl0, ?_⟩) (fun h => by omega), fun z => absurd z n01⟩
          rw [htk, List.any_append, hany]
          simp [hvp, hh]
        | some q =>
          have hh : hs Rk p = true := plc_some.mpr ⟨q, hpl⟩
          have hq3 := plc_lt hpl
          refine ⟨fun z => absurd z (nI_pos (n := q) (by omega)), fun _ => ⟨rfl, rfl, hS4, ?_⟩⟩
          have hchg : chg c t Rk S = .inl 20 := by
            unfold chg
            rw [if_neg (by omega), if_pos hc, if_neg (by omega), if_pos (List.any_eq_true.mpr ⟨v, hvm, by rw [hvp]; exact hh⟩)]
          rw [hchg]
          rfl
      · obtain ⟨hr0, hl0, hRk, hall⟩ := hc1 hc
        have n00 : ¬ nI c = 0 := by rw [hc]; decide
        refine ⟨fun _ => ⟨fun z => absurd (by rw [hc]; rfl) z, fun _ => ?_⟩, fun z => absurd z n00⟩
        -- the value isn't among the earlier ones
        have hnot : hs (S.take k) p = false := by
          cases hb : hs (S.take k) p with
          | false => rfl
          | true =>
            exfalso
            obtain ⟨w, hw, hwp⟩ := List.mem_map.mp (hs_mem.mp hb)
            obtain ⟨j, hj⟩ := List.getElem?_of_mem hw
            have hjk : j < k := by have := (List.getElem?_eq_some_iff.mp hj).1; rw [List.length_take] at this; omega
            rw [List.getElem?_take_of_lt hjk] at hj
            have hnd := hok.2.1
            have e1 : (S.map (fun v => v.2))[j]? = some p := by rw [List.getElem?_map, hj]; simp [hwp]
            have e2 : (S.map (fun v => v.2))[k]? = some p := by rw [List.getElem?_map, hv1]; simp [hvp]
            have := (List.getElem?_inj (by rw [List.length_map]; omega) hnd).mp (e1.trans e2.symm)
            omega
        have hsame : hs Rk p = hs R p := by
          rw [hRk]
          unfold hs
          rw [List.any_filter]
          apply Bool.eq_iff_iff.mpr
          rw [List.any_eq_true, List.any_eq_true]
          constructor
          · rintro ⟨w, hw, hb⟩
            exact ⟨w, hw, (Bool.and_eq_true _ _ ▸ hb).2⟩
          · rintro ⟨w, hw, hb⟩
            refine ⟨w, hw, ?_⟩
            have hwp := eq_of_beq hb
            rw [hb, hwp]
            have : (List.take k S).any (fun x => x.2 == p) = false := hnot
            rw [this]
            rfl
        cases hpl : plc Rk p with
        | none =>
          have hh : hs R p = false := by
            rw [← hsame]
            cases hb : hs Rk p with
            | false => rfl
            | true => obtain ⟨q, hq⟩ := plc_some.mp hb; rw [hpl] at hq; cases hq
          refine ⟨fun z => absurd z (by decide), fun _ => ⟨rfl, rfl, hS4, ?_⟩⟩
          have hchg : chg c t R S = .inl 16 := by
            unfold chg
            rw [if_pos hc, if_neg hr0, if_neg (fun h => by
              have := List.all_eq_true.mp h v hvm
              rw [hvp, hh] at this
              cases this)]
          rw [hchg]
          rfl
        | some q =>
          have hh : hs R p = true := by rw [← hsame]; exact plc_some.mpr ⟨q, hpl⟩
          have hq3 := plc_lt hpl
          have hRk3 := hr4.1
          refine ⟨fun _ => b_RF_change_198 hL ?_, fun z => absurd (nI_pos' (n := q) (by omega)) z⟩
          rw [h114, nI_1]
          refine ⟨fun z => absurd (by rw [hc]; rfl) z, fun _ => ⟨_, c_RF_takeAway (e := 12) hL hr4' (by omega) ht hq3, ?_⟩⟩
          rintro I6 _ _ ⟨rfl, rfl, hs6, hr6⟩
          rw [← h60] at hs6 hr6
          rw [erase_filter hw2.2.2 hpl] at hr6
          refine ih (k + 1) _ I6 (by omega) (Or.inr hc) (hs24.trans (fun a j h1 h2 h3 h4 h5 h6 => hs6 a j h1)) (fun j => (hs6 252 j (by unfold cr; omega)).trans (h2524 j)) (fun j => (hs6 253 j (by unfold cr; omega)).trans (h2534 j)) ((hs6 250 18 (by unfold cr; omega)).trans h184) hr6 (wfr_filter hw2) (fun h => by omega) (fun _ => ⟨hr0, hl0, ?_, ?_⟩)
          · rw [hRk, htk, List.filter_filter]
            congr 1
            funext x
            rw [hs_snoc, hvp, Bool.not_or, Bool.and_comm, Bool.beq_comm]
          · rw [htk, List.all_append, hall]
            simp [hvp, hh]
  have t61 : ¬ (c = 0 ∧ L.length = 0) → ¬ (c = 1 ∧ R.length = 0) → G_RF_change l V (Qch c t R S I J P) 61 [(0, xq (some 250)), (1, xi (nI t)), (2, xi 1), (3, xi (nI R.length))] [] I1 J P := by
    intro hn0 hn1
    refine b_RF_change_61 hL ?_
    rw [h111, h18]
    refine pk_eq c 2 (fun z => t84 (Or.inl z)) (fun z => (pk_eq c 1 (fun z1 => (pk_eq L.length 0 (fun z2 => t84 (Or.inr ⟨z1, z2, fun h => hn1 ⟨z1, h⟩⟩)) (fun z2 => ?_)).symm) (fun z1 => ?_)).symm)
    · exact t120 L.length 0 R I1 (by omega) (Or.inr z1) (fun _ _ _ _ _ _ _ _ => rfl) (fun _ => rfl) (fun _ => rfl) h18 hR1 hwR (fun h => by omega) (fun _ => ⟨fun h => hn1 ⟨z1, h⟩, z2, (List.filter_eq_self.mpr (fun x _ => rfl)).symm, by simp⟩)
    · exact t120 L.length 0 R I1 (by omega) (Or.inl (by omega)) (fun _ _ _ _ _ _ _ _ => rfl) (fun _ => rfl) (fun _ => rfl) h18 hR1 hwR (fun h => ⟨rfl, fun h2 => hn0 ⟨h, h2⟩, by simp⟩) (fun h => by omega)
  have q16 : c = 1 → R.length = 0 → Qch c t R S I J P 16 I1 J P := fun h h0 => ⟨rfl, rfl, hS1, by rw [show chg c t R S = .inl 16 from by unfold chg; rw [if_pos h, if_pos h0]]; rfl⟩
  have q2 : c = 0 → L.length = 0 → Qch c t R S I J P 2 I1 J P := fun h h0 => ⟨rfl, rfl, hS1, by rw [show chg c t R S = .inl 2 from by unfold chg; rw [if_neg (by omega), if_pos h, if_pos (by omega)]]; rfl⟩
  refine (pk_eq c 0 (fun z => (pk_eq L.length 0 (fun z2 => q2 z z2) (fun z2 => (pk_eq c 1 (fun z1 => by omega) (fun z1 => t61 (fun h => z2 h.2) (fun h => z1 h.1))).symm)).symm) (fun z => (pk_eq c 1 (fun z1 => (pk_eq R.length 0 (fun z3 => q16 z1 z3) (fun z3 => t61 (fun h => z h.1) (fun h => z3 h.2))).symm) (fun z1 => t61 (fun h => z h.1) (fun h => z1 h.1))).symm)).symm
end XRM

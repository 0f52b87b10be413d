/-! the editor: reading values, changing a row -/
theorem hs_app (R S : List Vl) (q : List Nat) : hs (R ++ S) q = (hs R q || hs S q) := by simp [hs]
/-- a text as a value of type t -/
def val (m : Nat → Nat) (t : Nat) (q : Nat × Nat) : Option Vl := (vo m q.1 q.2).bind fun g => (po t g).map fun p => (g, p)
/-- a request's values, up to the first one that is wrong -/
def rdv (m : Nat → Nat) (t : Nat) : List (Nat × Nat) → List Vl → Nat ⊕ List Vl
  | [], acc => .inr acc
  | q :: r, acc => match val m t q with
    | none => .inl 21
    | some v => if hs acc v.2 = true then .inl 20 else rdv m t r (acc ++ [v])
theorem val_vk {m : Nat → Nat} {t : Nat} {q : Nat × Nat} {v : Vl} (hb : ∀ j, j < q.2 → m j < 256) (h : val m t q = some v) : vk t v := by
  unfold val at h
  obtain ⟨g, hg, h⟩ := Option.bind_eq_some_iff.mp h
  obtain ⟨p, hp, rfl⟩ := Option.map_eq_some_iff.mp h
  have := vo_ok hb hg
  exact ⟨this.1, this.2.1, hp⟩
theorem hs_mem {R : List Vl} {q : List Nat} : hs R q = true ↔ q ∈ R.map (fun v => v.2) := by
  unfold hs
  rw [List.any_eq_true, List.mem_map]
  constructor
  · rintro ⟨x, hx, he⟩
    exact ⟨x, hx, eq_of_beq he⟩
  · rintro ⟨x, hx, he⟩
    exact ⟨x, hx, by rw [he]; simp⟩
theorem rdv_ok {m : Nat → Nat} {t : Nat} : ∀ {L : List (Nat × Nat)} {acc R : List Vl}, (∀ q ∈ L, ∀ j, j < q.2 → m j < 256) → (∀ v ∈ acc, vk t v) → (acc.map (fun v => v.2)).Nodup → rdv m t L acc = .inr R → (∀ v ∈ R, vk t v) ∧ (R.map (fun v => v.2)).Nodup ∧ R.length = acc.length + L.length := by
  intro L
  induction L with
  | nil =>
    intro acc R _ h1 h2 h
    cases h
    exact ⟨h1, h2, by simp⟩
  | cons q L ih =>
    intro acc R hb h1 h2 h
    rw [rdv] at h
    cases hv : val m t q with
    | none => rw [hv] at h; cases h
    | some v =>
      rw [hv] at h
      simp only at h
      by_cases hh : hs acc v.2 = true
      · rw [if_pos hh] at h; cases h
      · rw [if_neg hh] at h
        have hvk := val_vk (hb q (by simp)) hv
        have h3 := ih (fun q' hq' => hb q' (by simp [hq'])) (fun w hw => by
          rcases List.mem_append.mp hw with hw | hw
          · exact h1 w hw
          · simp at hw; rw [hw]; exact hvk) (by
          rw [List.map_append, List.nodup_append]
          refine ⟨h2, by simp, fun a ha b hb => ?_⟩
          simp at hb
          intro hab
          subst hab
          exact hh (hs_mem.mpr (by rw [← hb]; exact ha))) h
        refine ⟨h3.1, h3.2.1, ?_⟩
        rw [h3.2.2]
        simp
        omega
theorem rdv_code {m : Nat → Nat} {t : Nat} : ∀ {L : List (Nat × Nat)} {acc : List Vl} {c : Nat}, rdv m t L acc = .inl c → c = 20 ∨ c = 21 := by
  intro L
  induction L with
  | nil => intro acc c h; cases h
  | cons q L ih =>
    intro acc c h
    rw [rdv] at h
    cases hv : val m t q with
    | none => rw [hv] at h; cases h; exact Or.inr rfl
    | some v =>
      rw [hv] at h
      simp only at h
      by_cases hh : hs acc v.2 = true
      · rw [if_pos hh] at h; cases h; exact Or.inl rfl
      · rw [if_neg hh] at h; exact ih h
def Qrv (m : Nat → Nat) (t a : Nat) (L : List (Nat × Nat)) (I : xIt) (J : xJt) (P : xPt) : Int32 → xIt → xJt → xPt → Prop := fun r I' J' P' => P = P' ∧ xSr a I I' J J' ∧ match rdv m t L [] with
  | .inl c => r = nI c
  | .inr R => r = 0 ∧ xRw I' J' a (pkr R)
theorem vr_25 : ∀ a, a < 273 → xS0[a]? = some (6, 0) → 25 ≤ a ∧ a ≤ 245 := by decide +kernel
section XED
variable {l : Launch} {V : xV} {I : xIt} {J : xJt} {P : xPt} {m : Nat → Nat} {a t e : Nat} {T : List (Nat × Nat)}
theorem xTx.row {I1 : xIt} {J1 : xJt} (hT : xTx I T) (h5 : 25 ≤ a) (h : xSr a I I1 J J1) : xTx I1 T := ⟨(h.1 1 9 (by omega)).trans hT.1, fun i q hi => ⟨(h.1 3 i (by omega)).trans (hT.2 i q hi).1, (h.1 4 i (by omega)).trans (hT.2 i q hi).2⟩⟩
theorem xMs.row {I1 : xIt} {J1 : xJt} (hm : xMs I 2 m e) (h5 : 25 ≤ a) (h : xSr a I I1 J J1) : xMs I1 2 m e := fun j hj => ⟨(h.1 2 j (by omega)).trans (hm j hj).1, (hm j hj).2⟩
set_option maxRecDepth 20000 in
theorem c_ED_readValues {f : Nat} {L : List (Nat × Nat)} (hL : xL P) (hm : xMs I 2 m e) (he : e ≤ 153) (hT : xTx I T) (hl : T.length ≤ 75) (ht : t < 5) (ha : xS0[a]? = some (6, 0)) (hR : xRw I J a []) (hc : L.length ≤ xLn (a + 1)) (hf : ∀ (i : Nat) (q : Nat × Nat), L[i]? = some q → T[f + i]? = some q ∧ q.1 ≤ q.2 ∧ q.2 ≤ e) (hfb : f ≤ 100) : xMet l V y_ED_readValues 4 0 0 [xq (some 227), xq (some 1), xi (nI t), xi (nI f), xi (nI L.length), xq (some a)] xS0 I J P (xPi (Qrv m t a L I J P)) := by
  have h25 := vr_25 a (x_lt0 ha) ha
  have hcap := vr_cap ha
  have hbb : ∀ j, j < e → m j < 256 := fun j hj => (hm j hj).2
  have loop : ∀ (k j : Nat) (acc : List Vl) (I1 : xIt) (J1 : xJt), j + k = L.length → acc.length = j → (∀ v ∈ acc, vk t v) → xSr a I I1 J J1 → xRw I1 J1 a (pkr acc) → rdv m t L [] = rdv m t (L.drop j) acc → G_ED_readValues l V (Qrv m t a L I J P) 3 [(0, xq (some 227)), (1, xq (some 1)), (2, xi (nI t)), (3, xi (nI f)), (4, xi (nI L.length)), (5, xq (some a)), (6, xi (nI (f + j)))] [] I1 J1 P := by
    intro k
    induction k with
    | zero =>
      intro j acc I1 J1 hj hlen hvk hs1 hr hx
      refine b_ED_readValues_3 hL ?_
      rw [nI_add]
      refine pk_le (f + L.length) (f + j) (fun _ => ⟨rfl, hs1, ?_⟩) (fun z => by omega)
      rw [hx, List.drop_eq_nil_of_le (by omega), rdv]
      exact ⟨rfl, hr⟩
    | succ k ih =>
      intro j acc I1 J1 hj hlen hvk hs1 hr hx
      have hjl : j < L.length := by omega
      obtain ⟨h1, h2, h3⟩ := hf j _ (List.getElem?_eq_getElem hjl)
      rw [List.drop_eq_getElem_cons hjl, rdv] at hx
      refine b_ED_readValues_3 hL ?_
      rw [nI_add, nI_1]
      refine pk_le (f + L.length) (f + j) (fun z => by omega) (fun _ => ⟨1, rfl, s0_1, _, c_RQ_packed hL (hm.row h25.1 hs1) he (hT.row h25.1 hs1) h1 hl ⟨h2, h3⟩, ?_⟩)
      rintro w I2 _ _ ⟨rfl, rfl, rfl, rfl⟩
      cases hvo : vo m L[j].1 L[j].2 with
      | none =>
        have hval : val m t L[j] = none := by simp [val, hvo]
        rw [hval] at hx
        refine ⟨_, c_SX_plainOf_no hL, ?_⟩
        rintro w I2 _ _ ⟨rfl, rfl, rfl, rfl⟩
        rw [lg_cmp_eq]
        refine ⟨fun z => absurd rfl z, fun _ => ⟨rfl, hs1, ?_⟩⟩
        rw [hx]
        rfl
      | some g =>
        have hgo := vo_ok (fun i hi => hbb i (by omega)) hvo
        refine ⟨_, c_SX_plainOf hL hgo.1 hgo.2.1 ht, ?_⟩
        rintro w I2 _ _ ⟨rfl, rfl, rfl, rfl⟩
        rw [lg_cmp_eq]
        cases hpo : po t g with
        | none =>
          have hval : val m t L[j] = none := by simp [val, hvo, hpo]
          rw [hval] at hx
          refine ⟨fun z => absurd rfl z, fun _ => ⟨rfl, hs1, ?_⟩⟩
          rw [hx]
          rfl
        | some p =>
          have hval : val m t L[j] = some (g, p) := by simp [val, hvo, hpo]
          rw [hval] at hx
          simp only at hx
          have hpk := po_ok hgo.1 hgo.2.1 hpo
          refine ⟨fun _ => ⟨a, rfl, ha, _, c_VR_has hL ha hr, ?_⟩, fun z => absurd z (pkd_m1 hpk.1 hpk.2)⟩
          rintro w I2 _ _ ⟨rfl, rfl, rfl, rfl⟩
          rw [show (pkr acc).any (fun x => x.2 == pko (some p)) = hs acc p from pkr_any hpk hvk]
          by_cases hh : hs acc p = true
          · rw [if_pos hh] at hx ⊢
            refine ⟨fun z => absurd z (by decide), fun _ => ⟨rfl, hs1, ?_⟩⟩
            rw [hx]
            rfl
          · rw [if_neg hh] at hx ⊢
            refine ⟨fun _ => ⟨_, c_VR_add hL ha hr, ?_⟩, fun z => absurd rfl z⟩
            rintro I3 J3 _ ⟨rfl, hs3, hr3⟩
            rw [if_pos (by rw [pkr_len]; omega)] at hr3
            refine ih (j + 1) (acc ++ [(g, p)]) I3 J3 (by omega) (by simp; omega) (fun v hv => ?_) (hs1.trans hs3) ?_ hx
            · rcases List.mem_append.mp hv with hv | hv
              · exact hvk v hv
              · simp at hv; rw [hv]; exact ⟨hgo.1, hgo.2.1, hpo⟩
            · rw [show pkr (acc ++ [(g, p)]) = pkr acc ++ [(pkd g, pkd p)] from by simp [pkr]]
              exact hr3
  exact e_ED_readValues (b_ED_readValues_0 hL (loop L.length 0 [] I J (by omega) rfl (fun v hv => by cases hv) xSr.rfl hR (by simp)))
theorem pkr_rm {q : List Nat} (hq : q.length ≤ 6 ∧ by8 q) : ∀ {R : List Vl}, (∀ v ∈ R, vk t v) → (pkr R).filter (fun x => !(x.2 == pkd q)) = pkr (R.filter (fun x => !(x.2 == q))) := by
  intro R
  induction R with
  | nil => intro _; rfl
  | cons v R ih =>
    intro hR
    have h := vk_pl (hR v (by simp))
    have h2 := ih (fun w hw => hR w (by simp [hw]))
    show ((pkd v.1, pkd v.2) :: pkr R).filter (fun x => !(x.2 == pkd q)) = _
    by_cases hc : v.2 = q
    · rw [List.filter_cons_of_neg (by simp [hc]), List.filter_cons_of_neg (by simp [hc]), h2]
    · rw [List.filter_cons_of_pos (by simp; exact fun z => hc (pkd_inj h.1 h.2 hq.1 hq.2 z)), List.filter_cons_of_pos (by simp [hc]), h2]
      rfl
theorem pkr_rmall : ∀ {S R : List Vl}, (∀ v ∈ S, vk t v) → (∀ v ∈ R, vk t v) → (pkr S).foldl (fun r y => r.filter (fun x => !(x.2 == y.2))) (pkr R) = pkr (R.filter (fun x => !hs S x.2)) := by
  intro S
  induction S with
  | nil =>
    intro R _ _
    show pkr R = pkr (R.filter (fun x => !hs [] x.2))
    exact congrArg pkr (List.filter_eq_self.mpr (fun x _ => rfl)).symm
  | cons v S ih =>
    intro R hS hR
    show (pkr S).foldl _ ((pkr R).filter (fun x => !(x.2 == pkd v.2))) = _
    rw [pkr_rm (vk_pl (hS v (by simp))) hR, ih (fun w hw => hS w (by simp [hw])) (fun w hw => hR w (List.mem_filter.mp hw).1), List.filter_filter]
    congr 2
    funext x
    rw [hs_cons, Bool.not_or, Bool.and_comm, Bool.beq_comm]
theorem pkr_all {R : List Vl} (hR : ∀ v ∈ R, vk t v) : ∀ {S : List Vl}, (∀ v ∈ S, vk t v) → (pkr S).all (fun y => (pkr R).any (fun x => x.2 == y.2)) = S.all (fun y => hs R y.2) := by
  intro S
  induction S with
  | nil => intro _; rfl
  | cons v S ih =>
    intro hS
    show ((pkr R).any (fun x => x.2 == pkd v.2) && (pkr S).all _) = (hs R v.2 && S.all _)
    rw [ih (fun w hw => hS w (by simp [hw])), pkr_any (vk_pl (hS v (by simp))) hR]
theorem pkr_anyS {R : List Vl} (hR : ∀ v ∈ R, vk t v) : ∀ {S : List Vl}, (∀ v ∈ S, vk t v) → (pkr S).any (fun y => (pkr R).any (fun x => x.2 == y.2)) = S.any (fun y => hs R y.2) := by
  intro S
  induction S with
  | nil => intro _; rfl
  | cons v S ih =>
    intro hS
    show ((pkr R).any (fun x => x.2 == pkd v.2) || (pkr S).any _) = (hs R v.2 || S.any _)
    rw [ih (fun w hw => hS w (by simp [hw])), pkr_any (vk_pl (hS v (by simp))) hR]
theorem addall {c : Nat} : ∀ {S R : List (Int64 × Int64)}, R.length + S.length ≤ c → S.foldl (fun r y => if r.length < c then r ++ [y] else r) R = R ++ S := by
  intro S
  induction S with
  | nil => intro R _; simp
  | cons v S ih =>
    intro R h
    rw [List.foldl_cons, if_pos (by simp at h; omega), ih (by simp at h ⊢; omega)]
    simp
/-- what comes of the row R by the change c with the values S -/
def chg (c t : Nat) (R S : List Vl) : Nat ⊕ List Vl :=
  if c = 1 then (if R.length = 0 then .inl 16 else if S.all (fun y => hs R y.2) = true then (if S.length = 0 then .inr [] else .inr (R.filter (fun x => !hs S x.2))) else .inl 16)
  else if c = 0 then (if S.length = 0 then .inl 2 else if S.any (fun y => hs R y.2) = true then .inl 20 else if R.length + S.length ≤ mo t then .inr (R ++ S) else .inl 19)
  else if S.length ≤ mo t then .inr S else .inl 19
theorem cand_cap : ∀ t, t < 5 → xLn (230 + 3 * t + 1) = 11 := by decide +kernel
theorem asked_cap : xLn (245 + 1) = 8 := by decide +kernel
theorem xs1_at : ∀ k, k < 5 → xs1 k = nI (mo k) := by decide +kernel
def Qcg (c t : Nat) (R S : List Vl) (I : xIt) (J : xJt) (P : xPt) : Int32 → xIt → xJt → xPt → Prop := fun r I' J' P' => P = P' ∧ xSr (230 + 3 * t) I I' J J' ∧ match chg c t R S with
  | .inl k => r = nI k
  | .inr R' => r = 0 ∧ xRw I' J' (230 + 3 * t) (pkr R')
set_option maxRecDepth 20000 in
theorem c_ED_takeAway {R S : List Vl} (hL : xL P) (ht : t < 5) (hR : xRw I J (230 + 3 * t) (pkr R)) (hS : xRw I J 245 (pkr S)) (vR : ∀ v ∈ R, vk t v) (vS : ∀ v ∈ S, vk t v) : xMet l V y_ED_takeAway 3 0 0 [xq (some 227), xq (some (230 + 3 * t))] xS0 I J P (xPi (Qcg 1 t R S I J P)) := by
  have ha := (en_row hL s0_228 ht).2
  have hc := vr_cap ha
  have hl1 := hR.2.1
  have hl2 := hS.2.1
  rw [pkr_len] at hl1 hl2
  rw [asked_cap] at hl2
  rw [cand_cap t ht] at hl1
  refine e_ED_takeAway (b_ED_takeAway_0 hL ⟨230 + 3 * t, rfl, ha, ?_⟩)
  refine pk_eq R.length 0 (fun z => ⟨rfl, xSr.rfl, by simp only [chg, if_pos z]; rfl⟩) (fun z => ?_) (hR.1.trans (by rw [pkr_len])) rfl
  rw [lp_227_1 hL]
  refine ⟨_, c_VR_hasAll hL ha s0_245 hR hS, ?_⟩
  rintro w I1 _ _ ⟨rfl, rfl, rfl, rfl⟩
  rw [pkr_all vR vS]
  by_cases hh : S.all (fun y => hs R y.2) = true
  · rw [if_pos hh]
    refine ⟨fun _ => ?_, fun w => absurd w (by decide)⟩
    rw [lp_227_1 hL]
    refine (pk_eq S.length 0 (fun z2 => ⟨_, c_VR_clear hL ha, ?_⟩) (fun z2 => ⟨_, c_VR_removeAll hL ha s0_245 (by omega) hR hS, ?_⟩) (hS.1.trans (by rw [pkr_len])) rfl).symm
    · rintro I3 J3 _ ⟨rfl, h1, h2⟩
      refine ⟨rfl, h1, ?_⟩
      simp only [chg, if_pos, if_neg z, if_pos hh, if_pos z2]
      exact ⟨trivial, h2⟩
    · rintro I3 J3 _ ⟨rfl, h1, h2⟩
      refine ⟨rfl, h1, ?_⟩
      rw [pkr_rmall vS vR] at h2
      simp only [chg, if_pos, if_neg z, if_pos hh, if_neg z2]
      exact ⟨trivial, h2⟩
  · rw [if_neg hh]
    refine ⟨fun w => absurd rfl w, fun _ => ⟨rfl, xSr.rfl, ?_⟩⟩
    simp only [chg, if_pos, if_neg z, if_neg hh]
    rfl
set_option maxRecDepth 20000 in
theorem c_ED_change {c : Nat} {R S : List Vl} (hL : xL P) (hc2 : c ≤ 2) (ht : t < 5) (hR : xRw I J (230 + 3 * t) (pkr R)) (hS : xRw I J 245 (pkr S)) (vR : wfr t R) (vS : ∀ v ∈ S, vk t v) : xMet l V y_ED_change 4 0 0 [xq (some 227), xi (nI c), xi (nI t)] xS0 I J P (xPi (Qcg c t R S I J P)) := by
  have hr := en_row hL s0_228 ht
  have ha := hr.2
  have hP : P 229 t = some (230 + 3 * t) := hr.1
  have hl1 := vR.2.1
  have hl2 := hS.2.1
  have hm3 : mo t ≤ 3 := by unfold mo; split <;> omega
  rw [pkr_len, asked_cap] at hl2
  refine e_ED_change (b_ED_change_0 hL ⟨pk_in t 5 ht, ?_⟩)
  rw [pk_cl t, xs1_at t ht, lp_227_1 hL]
  refine (pk_eq c 1 (fun z => ?_) (fun z => ?_)).symm
  · subst z
    rw [hP]
    refine ⟨_, c_ED_takeAway hL ht hR hS vR.1 vS, ?_⟩
    rintro w I1 J1 P1 h
    exact h
  refine (pk_eq c 0 (fun z0 => ?_) (fun z0 => ⟨_, hP, ha, _, c_VR_copy hL ha s0_245 (by omega) hS, ?_⟩)).symm
  · subst z0
    refine (pk_eq S.length 0 (fun z2 => ⟨rfl, xSr.rfl, by simp only [chg, if_neg z, if_pos, if_pos z2]; rfl⟩) (fun z2 => ⟨_, hP, ha, _, c_VR_hasAny hL ha s0_245 hR hS, ?_⟩) (hS.1.trans (by rw [pkr_len])) rfl).symm
    rintro w I1 _ _ ⟨rfl, rfl, rfl, rfl⟩
    rw [pkr_anyS vR.1 vS]
    by_cases hh : S.any (fun y => hs R y.2) = true
    · rw [if_pos hh]
      refine ⟨fun w => absurd w (by decide), fun _ => ⟨rfl, xSr.rfl, ?_⟩⟩
      simp only [chg, if_neg z, if_pos, if_neg z2, if_pos hh]
      rfl
    · rw [if_neg hh, lp_227_1 hL]
      refine ⟨fun _ => ⟨_, c_VR_addAll hL ha s0_245 (by omega) hR hS, ?_⟩, fun w => absurd rfl w⟩
      rintro I3 J3 _ ⟨rfl, h1, h2⟩
      rw [cand_cap t ht, addall (by rw [pkr_len, pkr_len]; omega), show pkr R ++ pkr S = pkr (R ++ S) from by simp [pkr]] at h2
      refine ⟨pk_in t 5 ht, ?_⟩
      refine pk_le (R ++ S).length (mo t) (fun z3 => ⟨rfl, h1, ?_⟩) (fun z3 => ⟨rfl, h1, ?_⟩) (h2.1.trans (by rw [pkr_len])) rfl (by simp; omega) (by omega)
      · rw [List.length_append] at z3
        simp only [chg, if_neg z, if_pos, if_neg z2, if_neg hh, if_pos z3]
        exact ⟨trivial, h2⟩
      · rw [List.length_append] at z3
        simp only [chg, if_neg z, if_pos, if_neg z2, if_neg hh, if_neg (show ¬ R.length + S.length ≤ mo t by omega)]
        rfl
  · rintro I3 J3 _ ⟨rfl, h1, h2⟩
    rw [cand_cap t ht, List.take_of_length_le (by rw [pkr_len]; omega)] at h2
    refine ⟨pk_in t 5 ht, ?_⟩
    refine pk_le S.length (mo t) (fun z3 => ⟨rfl, h1, ?_⟩) (fun z3 => ⟨rfl, h1, ?_⟩) (h2.1.trans (by rw [pkr_len])) rfl (by omega) (by omega)
    · simp only [chg, if_neg z, if_neg z0, if_pos z3]
      exact ⟨trivial, h2⟩
    · simp only [chg, if_neg z, if_neg z0, if_neg (show ¬ S.length ≤ mo t by omega)]
      rfl
end XED

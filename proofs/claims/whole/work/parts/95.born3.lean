/-! constructors of requests, the editor, the class -/
def shRQ : xSh := [(1, 0), (64, 153), (64, 75), (64, 75), (64, 18)] ++ shFL
def kRQ (a : Nat) (P : xPt) : Prop := P a 0 = some (a + 1) ∧ P a 7 = some (a + 2) ∧ P a 8 = some (a + 3) ∧ P a 10 = some (a + 4) ∧ P a 12 = some (a + 5) ∧ kFL (a + 5) P
theorem kRQ.keep {e : Nat} {P P' : xPt} (h : kRQ e P) (hP : ∀ c k, e ≤ c → c < e + 12 → P' c k = P c k) : kRQ e P' := by
  obtain ⟨h0, h1, h2, h3, h4, h5⟩ := h
  exact ⟨(hP e 0 (by omega) (by omega)).trans h0, (hP e 7 (by omega) (by omega)).trans h1, (hP e 8 (by omega) (by omega)).trans h2, (hP e 10 (by omega) (by omega)).trans h3, (hP e 12 (by omega) (by omega)).trans h4, h5.keep (fun c k h1 h2 => hP c k (by omega) (by omega))⟩
def shED : xSh := (7, 0) :: (sE 11 5 ++ shV 8)
def kED (a : Nat) (P : xPt) : Prop := P a 0 = some (a + 1) ∧ kE (a + 1) P ∧ P a 1 = some (a + 18) ∧ kV (a + 18) P
theorem kED.keep {e : Nat} {P P' : xPt} (h : kED e P) (hP : ∀ c k, e ≤ c → c < e + 21 → P' c k = P c k) : kED e P' := ⟨(hP e 0 (by omega) (by omega)).trans h.1, h.2.1.keep (fun c k h1 h2 => hP c k (by omega) (by omega)), (hP e 1 (by omega) (by omega)).trans h.2.2.1, h.2.2.2.keep (fun c k h1 h2 => hP c k (by omega) (by omega))⟩
/-- behind the making of a part at a' and its writing into the field f of the object a -/
theorem nst {I I' : xIt} {P P' : xPt} {a a' f : Nat} {v : Option Nat} (hf : ∀ c k, c < a' → I' c k = xz I a' 0 c k ∧ P' c k = xz P a' none c k) : (∀ c k, c < a' → I' c k = I c k) ∧ ∀ c k, c < a' → ¬ (c = a ∧ k = f) → xu P' a f v c k = P c k :=
  ⟨fun c k hc => (hf c k hc).1.trans (by rw [xz_ne (by omega)]), fun c k hc h => (xu_other h).trans ((hf c k hc).2.trans (by rw [xz_ne (by omega)]))⟩
section XNE
variable {l : Launch} {V : xV} {T : xSh} {I : xIt} {J : xJt} {P : xPt} {a : Nat}
set_option maxRecDepth 20000 in
theorem n_RQ (hT : T.length = a) : xMet l V y_RQ_init 2 11 400 [xq (some a)] (T ++ [(1, 0)]) I J P (Pn T a shRQ I P (fun _ P' => kRQ a P')) := by
  refine xMet_of (by decide) (Nat.le_of_ble_eq_true rfl) ?_
  refine xG_aload_n d_RQ_init_0 rfl rfl rfl ?_
  refine xG_objInit d_RQ_init_1 w1_27 w1_20 w_oi rfl ⟨Nat.le_of_ble_eq_true rfl, Nat.le_of_ble_eq_true rfl⟩ (Nat.le_of_ble_eq_true rfl) ?_
  refine xG_aload_n d_RQ_init_4 rfl rfl rfl ?_
  refine xG_sipush (v := 153) d_RQ_init_5 rfl ?_
  refine xG_newi' (s := a + 1) (N := 153) (by simp [hT]) d_RQ_init_8 (by decide) (by decide) (by decide) (by decide) (by decide) ?_
  refine xG_putq d_RQ_init_10 xf_RQ_9 (Or.inr ⟨rfl, rfl⟩) rfl (by simp only [List.append_assoc]; exact sh_0 hT) ?_
  refine xG_aload_n d_RQ_init_13 rfl rfl rfl ?_
  refine xG_iconst (v := 0) d_RQ_init_14 rfl ?_
  refine xG_puti d_RQ_init_15 xf_RQ_15 (Or.inl rfl) rfl (by simp only [List.append_assoc]; exact sh_0 hT) rfl rfl ?_
  refine xG_aload_n d_RQ_init_18 rfl rfl rfl ?_
  refine xG_iconst (v := 0) d_RQ_init_19 rfl ?_
  refine xG_puti d_RQ_init_20 xf_RQ_19 (Or.inl rfl) rfl (by simp only [List.append_assoc]; exact sh_0 hT) rfl rfl ?_
  refine xG_aload_n d_RQ_init_23 rfl rfl rfl ?_
  refine xG_iconst (v := 0) d_RQ_init_24 rfl ?_
  refine xG_puti d_RQ_init_25 xf_RQ_22 (Or.inl rfl) rfl (by simp only [List.append_assoc]; exact sh_0 hT) rfl rfl ?_
  refine xG_aload_n d_RQ_init_28 rfl rfl rfl ?_
  refine xG_iconst (v := 0) d_RQ_init_29 rfl ?_
  refine xG_puti d_RQ_init_30 xf_RQ_25 (Or.inl rfl) rfl (by simp only [List.append_assoc]; exact sh_0 hT) rfl rfl ?_
  refine xG_aload_n d_RQ_init_33 rfl rfl rfl ?_
  refine xG_iconst (v := 0) d_RQ_init_34 rfl ?_
  refine xG_puti d_RQ_init_35 xf_RQ_28 (Or.inl rfl) rfl (by simp only [List.append_assoc]; exact sh_0 hT) rfl rfl ?_
  refine xG_aload_n d_RQ_init_38 rfl rfl rfl ?_
  refine xG_iconst (v := 0) d_RQ_init_39 rfl ?_
  refine xG_puti d_RQ_init_40 xf_RQ_31 (Or.inl rfl) rfl (by simp only [List.append_assoc]; exact sh_0 hT) rfl rfl ?_
  refine xG_aload_n d_RQ_init_43 rfl rfl rfl ?_
  refine xG_bipush (v := 75) d_RQ_init_44 rfl ?_
  refine xG_newi' (s := a + 2) (N := 75) (by simp [hT]) d_RQ_init_46 (by decide) (by decide) (by decide) (by decide) (by decide) ?_
  refine xG_putq d_RQ_init_48 xf_RQ_35 (Or.inr ⟨rfl, rfl⟩) rfl (by simp only [List.append_assoc]; exact sh_0 hT) ?_
  refine xG_aload_n d_RQ_init_51 rfl rfl rfl ?_
  refine xG_bipush (v := 75) d_RQ_init_52 rfl ?_
  refine xG_newi' (s := a + 3) (N := 75) (by simp [hT]) d_RQ_init_54 (by decide) (by decide) (by decide) (by decide) (by decide) ?_
  refine xG_putq d_RQ_init_56 xf_RQ_38 (Or.inr ⟨rfl, rfl⟩) rfl (by simp only [List.append_assoc]; exact sh_0 hT) ?_
  refine xG_aload_n d_RQ_init_59 rfl rfl rfl ?_
  refine xG_iconst (v := 0) d_RQ_init_60 rfl ?_
  refine xG_puti d_RQ_init_61 xf_RQ_41 (Or.inl rfl) rfl (by simp only [List.append_assoc]; exact sh_0 hT) rfl rfl ?_
  refine xG_aload_n d_RQ_init_64 rfl rfl rfl ?_
  refine xG_bipush (v := 18) d_RQ_init_65 rfl ?_
  refine xG_newi' (s := a + 4) (N := 18) (by simp [hT]) d_RQ_init_67 (by decide) (by decide) (by decide) (by decide) (by decide) ?_
  refine xG_putq d_RQ_init_69 xf_RQ_44 (Or.inr ⟨rfl, rfl⟩) rfl (by simp only [List.append_assoc]; exact sh_0 hT) ?_
  refine xG_aload_n d_RQ_init_72 rfl rfl rfl ?_
  refine xG_iconst (v := 0) d_RQ_init_73 rfl ?_
  refine xG_puti d_RQ_init_74 xf_RQ_47 (Or.inl rfl) rfl (by simp only [List.append_assoc]; exact sh_0 hT) rfl rfl ?_
  refine xG_aload_n d_RQ_init_77 rfl rfl rfl ?_
  have hlt : (T ++ [(1, 0)] ++ [(64, 153)] ++ [(64, 75)] ++ [(64, 75)] ++ [(64, 18)] : xSh).length = a + 5 := by simp [hT]
  refine xG_new' (s := a + 5) (ci := 2) (N := 7) hlt d_RQ_init_78 ⟨_, _, rfl, w1_28, w1_29, w1_3⟩ (by decide) (by decide) ?_
  refine xG_dup d_RQ_init_81 rfl ?_
  refine xG_calln2 (j := 1) (as := []) (rest := [xq (some (a + 5)), xq (some a)]) d_RQ_init_82 yi_FL_init rfl rfl rfl rfl (n_FL hlt) ⟨by decide, by decide⟩ (Nat.le_of_ble_eq_true rfl) ⟨by decide, by decide⟩ (fun q S2 I2 J2 P2 hp => ?_)
  obtain ⟨rfl, rfl, hf2, hk2⟩ := hp
  refine xG_putq d_RQ_init_85 xf_RQ_53 (Or.inr ⟨rfl, rfl⟩) rfl (by simp only [List.append_assoc]; exact sh_0 hT) ?_
  have g := nst (a := a) (f := 12) (v := some (a + 5)) hf2
  refine xG_return d_RQ_init_88 rfl ⟨rfl, by simp [shRQ], fun c k hc => ?_, ?_, ?_, ?_, ?_, xu_at, hk2.keep (fun c k h1 h2 => xu_other (by omega))⟩
  · refine ⟨(g.1 c k (by omega)).trans ?_, (g.2 c k (by omega) (by omega)).trans ?_⟩
    all_goals
      have h0 : c ≠ a := by omega
      have h1 : c ≠ a + 1 := by omega
      have h2 : c ≠ a + 2 := by omega
      have h3 : c ≠ a + 3 := by omega
      have h4 : c ≠ a + 4 := by omega
      simp [xu, xz, h0, h1, h2, h3, h4]
  · refine (g.2 a 0 (by omega) (by omega)).trans ?_; simp [xu, xz]
  · refine (g.2 a 7 (by omega) (by omega)).trans ?_; simp [xu, xz]
  · refine (g.2 a 8 (by omega) (by omega)).trans ?_; simp [xu, xz]
  · refine (g.2 a 10 (by omega) (by omega)).trans ?_; simp [xu, xz]
set_option maxRecDepth 20000 in
theorem n_ED (hT : T.length = a) : xMet l V y_ED_init 3 20 153 [xq (some a)] (T ++ [(7, 0)]) I J P (Pn T a shED I P (fun _ P' => kED a P')) := by
  refine xMet_of (by decide) (Nat.le_of_ble_eq_true rfl) ?_
  refine xG_aload_n d_ED_init_0 rfl rfl rfl ?_
  refine xG_objInit d_ED_init_1 w1_218 w1_20 w_oi rfl ⟨Nat.le_of_ble_eq_true rfl, Nat.le_of_ble_eq_true rfl⟩ (Nat.le_of_ble_eq_true rfl) ?_
  refine xG_aload_n d_ED_init_4 rfl rfl rfl ?_
  have hl1 : (T ++ [(7, 0)] : xSh).length = a + 1 := by simp [hT]
  refine xG_new' (s := a + 1) (ci := 5) (N := 4) hl1 d_ED_init_5 ⟨_, _, rfl, w1_219, w1_148, w1_6⟩ (by decide) (by decide) ?_
  refine xG_dup d_ED_init_8 rfl ?_
  refine xG_bipush (v := 11) d_ED_init_9 rfl ?_
  refine xG_calln (as := [xi (nI 11)]) (rest := [xq (some (a + 1)), xq (some a)]) d_ED_init_11 yi_EN_init (by first | exact w1_220 | exact w1_221) rfl rfl rfl (n_EN (r := 11) (by omega) hl1) ⟨by decide, by decide⟩ (Nat.le_of_ble_eq_true rfl) ⟨by decide, by decide⟩ (fun q S2 I2 J2 P2 hp => ?_)
  obtain ⟨rfl, rfl, hf2, hk2⟩ := hp
  refine xG_putq d_ED_init_14 xf_ED_16 (Or.inr ⟨rfl, rfl⟩) rfl (by simp only [List.append_assoc]; exact sh_0 hT) ?_
  have g2 := nst (a := a) (f := 0) (v := some (a + 1)) hf2
  refine xG_aload_n d_ED_init_17 rfl rfl rfl ?_
  have hl2 : (T ++ [(7, 0)] ++ sE 11 5 : xSh).length = a + 18 := by simp [hT, sE_len]
  refine xG_new' (s := a + 18) (ci := 6) (N := 3) hl2 d_ED_init_18 ⟨_, _, rfl, w1_221, w1_155, w1_7⟩ (by decide) (by decide) ?_
  refine xG_dup d_ED_init_21 rfl ?_
  refine xG_bipush (v := 8) d_ED_init_22 rfl ?_
  refine xG_calln (as := [xi (nI 8)]) (rest := [xq (some (a + 18)), xq (some a)]) d_ED_init_24 yi_VR_init (by first | exact w1_222 | exact w1_223) rfl rfl rfl (n_VR (r := 8) (by omega) hl2) ⟨by decide, by decide⟩ (Nat.le_of_ble_eq_true rfl) ⟨by decide, by decide⟩ (fun q S3 I3 J3 P3 hp => ?_)
  obtain ⟨rfl, rfl, hf3, hk3⟩ := hp
  refine xG_putq d_ED_init_27 xf_ED_25 (Or.inr ⟨rfl, rfl⟩) rfl (by simp only [List.append_assoc]; exact sh_0 hT) ?_
  have g3 := nst (a := a) (f := 1) (v := some (a + 18)) hf3
  refine xG_return d_ED_init_30 rfl ⟨rfl, by simp [shED], fun c k hc => ⟨(g3.1 c k (by omega)).trans (g2.1 c k (by omega)), (g3.2 c k (by omega) (by omega)).trans (g2.2 c k (by omega) (by omega))⟩, (g3.2 a 0 (by omega) (by omega)).trans xu_at, hk2.keep (fun c k h1 h2 => (g3.2 c k (by omega) (by omega)).trans (xu_other (by omega))), xu_at, hk3.keep (fun c k h1 h2 => xu_other (by omega))⟩
def shDS : xSh := (0, 0) :: (shRQ ++ (shNM ++ (shNM ++ (sT 12 ++ (shED ++ shAN)))))
def kDS (a : Nat) (I : xIt) (P : xPt) : Prop := (I a 0 = 0 ∧ I a 1 = 1 ∧ P a 2 = none ∧ I a 3 = -1 ∧ I a 4 = 0) ∧ (P a 5 = some (a + 1) ∧ P a 6 = some (a + 13) ∧ P a 7 = some (a + 17) ∧ P a 8 = some (a + 21) ∧ P a 9 = some (a + 227) ∧ P a 10 = some (a + 248)) ∧ kRQ (a + 1) P ∧ kNM (a + 13) P ∧ kNM (a + 17) P ∧ kTR (a + 21) I P ∧ kED (a + 227) P ∧ P (a + 248) 0 = some (a + 249) ∧ I (a + 248) 1 = 0
set_option maxRecDepth 20000 in
theorem n_DS (hT : T.length = a) : xMet l V y_DS_init 4 249 3025 [xq (some a)] (T ++ [(0, 0)]) I J P (Pn T a shDS I P (kDS a)) := by
  refine xMet_of (by decide) (Nat.le_of_ble_eq_true rfl) ?_
  refine xG_aload_n d_DS_init_0 rfl rfl rfl ?_
  refine xG_objInit d_DS_init_1 w1_19 w1_20 w_oi rfl ⟨Nat.le_of_ble_eq_true rfl, Nat.le_of_ble_eq_true rfl⟩ (Nat.le_of_ble_eq_true rfl) ?_
  refine xG_aload_n d_DS_init_4 rfl rfl rfl ?_
  refine xG_iconst (v := 0) d_DS_init_5 rfl ?_
  refine xG_puti d_DS_init_6 xf_DS_9 (Or.inl rfl) rfl (sh_0 hT) rfl rfl ?_
  refine xG_aload_n d_DS_init_9 rfl rfl rfl ?_
  refine xG_iconst (v := 1) d_DS_init_10 rfl ?_
  refine xG_puti d_DS_init_11 xf_DS_13 (Or.inl rfl) rfl (sh_0 hT) rfl rfl ?_
  refine xG_aload_n d_DS_init_14 rfl rfl rfl ?_
  refine xG_null d_DS_init_15 ?_
  refine xG_putq d_DS_init_16 xf_DS_17 (Or.inl rfl) rfl (sh_0 hT) ?_
  refine xG_aload_n d_DS_init_19 rfl rfl rfl ?_
  refine xG_iconst (v := -1) d_DS_init_20 rfl ?_
  refine xG_puti d_DS_init_21 xf_DS_21 (Or.inl rfl) rfl (sh_0 hT) rfl rfl ?_
  refine xG_aload_n d_DS_init_24 rfl rfl rfl ?_
  refine xG_iconst (v := 0) d_DS_init_25 rfl ?_
  refine xG_puti d_DS_init_26 xf_DS_24 (Or.inl rfl) rfl (sh_0 hT) rfl rfl ?_
  refine xG_aload_n d_DS_init_29 rfl rfl rfl ?_
  have hl1 : (T ++ [(0, 0)] : xSh).length = a + 1 := by simp [hT]
  refine xG_new' (s := a + 1) (ci := 1) (N := 13) hl1 d_DS_init_30 ⟨_, _, rfl, w1_22, w1_23, w1_2⟩ (by decide) (by decide) ?_
  refine xG_dup d_DS_init_33 rfl ?_
  refine xG_calln2 (j := 0) (as := []) (rest := [xq (some (a + 1)), xq (some a)]) d_DS_init_34 yi_RQ_init rfl rfl rfl rfl (n_RQ hl1) ⟨by decide, by decide⟩ (Nat.le_of_ble_eq_true rfl) ⟨by decide, by decide⟩ (fun q S1 I1 J1 P1 hp => ?_)
  obtain ⟨rfl, rfl, hf1, hk1⟩ := hp
  refine xG_putq d_DS_init_37 xf_DS_30 (Or.inr ⟨rfl, rfl⟩) rfl (by simp only [List.append_assoc]; exact sh_0 hT) ?_
  have g1 := nst (a := a) (f := 5) (v := some (a + 1)) hf1
  refine xG_aload_n d_DS_init_40 rfl rfl rfl ?_
  have hl2 : (T ++ [(0, 0)] ++ shRQ : xSh).length = a + 13 := by simp [hT, shRQ, shFL]
  refine xG_new' (s := a + 13) (ci := 3) (N := 4) hl2 d_DS_init_41 ⟨_, _, rfl, w1_111, w1_112, w1_4⟩ (by decide) (by decide) ?_
  refine xG_dup d_DS_init_44 rfl ?_
  refine xG_calln2 (j := 2) (as := []) (rest := [xq (some (a + 13)), xq (some a)]) d_DS_init_45 yi_NM_init rfl rfl rfl rfl (n_NM hl2) ⟨by decide, by decide⟩ (Nat.le_of_ble_eq_true rfl) ⟨by decide, by decide⟩ (fun q S2 I2 J2 P2 hp => ?_)
  obtain ⟨rfl, rfl, hf2, hk2⟩ := hp
  refine xG_putq d_DS_init_48 xf_DS_37 (Or.inr ⟨rfl, rfl⟩) rfl (by simp only [List.append_assoc]; exact sh_0 hT) ?_
  have g2 := nst (a := a) (f := 6) (v := some (a + 13)) hf2
  refine xG_aload_n d_DS_init_51 rfl rfl rfl ?_
  have hl3 : (T ++ [(0, 0)] ++ shRQ ++ shNM : xSh).length = a + 17 := by simp [hT, shRQ, shFL, shNM]
  refine xG_new' (s := a + 17) (ci := 3) (N := 4) hl3 d_DS_init_52 ⟨_, _, rfl, w1_111, w1_112, w1_4⟩ (by decide) (by decide) ?_
  refine xG_dup d_DS_init_55 rfl ?_
  refine xG_calln2 (j := 2) (as := []) (rest := [xq (some (a + 17)), xq (some a)]) d_DS_init_56 yi_NM_init rfl rfl rfl rfl (n_NM hl3) ⟨by decide, by decide⟩ (Nat.le_of_ble_eq_true rfl) ⟨by decide, by decide⟩ (fun q S3 I3 J3 P3 hp => ?_)
  obtain ⟨rfl, rfl, hf3, hk3⟩ := hp
  refine xG_putq d_DS_init_59 xf_DS_41 (Or.inr ⟨rfl, rfl⟩) rfl (by simp only [List.append_assoc]; exact sh_0 hT) ?_
  have g3 := nst (a := a) (f := 7) (v := some (a + 17)) hf3
  refine xG_aload_n d_DS_init_62 rfl rfl rfl ?_
  have hl4 : (T ++ [(0, 0)] ++ shRQ ++ shNM ++ shNM : xSh).length = a + 21 := by simp [hT, shRQ, shFL, shNM]
  refine xG_new' (s := a + 21) (ci := 4) (N := 2) hl4 d_DS_init_63 ⟨_, _, rfl, w1_140, w1_141, w1_5⟩ (by decide) (by decide) ?_
  refine xG_dup d_DS_init_66 rfl ?_
  refine xG_calln (as := []) (rest := [xq (some (a + 21)), xq (some a)]) d_DS_init_67 yi_TR_init w1_142 rfl rfl rfl (n_TR hl4) ⟨by decide, by decide⟩ (Nat.le_of_ble_eq_true rfl) ⟨by decide, by decide⟩ (fun q S4 I4 J4 P4 hp => ?_)
  obtain ⟨rfl, rfl, hf4, hk4⟩ := hp
  refine xG_putq d_DS_init_70 xf_DS_47 (Or.inr ⟨rfl, rfl⟩) rfl (by simp only [List.append_assoc]; exact sh_0 hT) ?_
  have g4 := nst (a := a) (f := 8) (v := some (a + 21)) hf4
  refine xG_aload_n d_DS_init_73 rfl rfl rfl ?_
  have hl5 : (T ++ [(0, 0)] ++ shRQ ++ shNM ++ shNM ++ sT 12 : xSh).length = a + 227 := by simp [hT, shRQ, shFL, shNM, sT_len]
  refine xG_new' (s := a + 227) (ci := 7) (N := 2) hl5 d_DS_init_74 ⟨_, _, rfl, w1_213, w1_214, w1_8⟩ (by decide) (by decide) ?_
  refine xG_dup d_DS_init_77 rfl ?_
  refine xG_calln2 (j := 3) (as := []) (rest := [xq (some (a + 227)), xq (some a)]) d_DS_init_78 yi_ED_init rfl rfl rfl rfl (n_ED hl5) ⟨by decide, by decide⟩ (Nat.le_of_ble_eq_true rfl) ⟨by decide, by decide⟩ (fun q S5 I5 J5 P5 hp => ?_)
  obtain ⟨rfl, rfl, hf5, hk5⟩ := hp
  refine xG_putq d_DS_init_81 xf_DS_54 (Or.inr ⟨rfl, rfl⟩) rfl (by simp only [List.append_assoc]; exact sh_0 hT) ?_
  have g5 := nst (a := a) (f := 9) (v := some (a + 227)) hf5
  refine xG_aload_n d_DS_init_84 rfl rfl rfl ?_
  have hl6 : (T ++ [(0, 0)] ++ shRQ ++ shNM ++ shNM ++ sT 12 ++ shED : xSh).length = a + 248 := by simp [hT, shRQ, shFL, shNM, sT_len, shED, sE_len, shV]
  refine xG_new' (s := a + 248) (ci := 8) (N := 2) hl6 d_DS_init_85 ⟨_, _, rfl, w1_230, w1_231, w1_9⟩ (by decide) (by decide) ?_
  refine xG_dup d_DS_init_88 rfl ?_
  refine xG_calln2 (j := 4) (as := []) (rest := [xq (some (a + 248)), xq (some a)]) d_DS_init_89 yi_AN_init rfl rfl rfl rfl (n_AN hl6) ⟨by decide, by decide⟩ (Nat.le_of_ble_eq_true rfl) ⟨by decide, by decide⟩ (fun q S6 I6 J6 P6 hp => ?_)
  obtain ⟨rfl, rfl, hf6, hk6⟩ := hp
  refine xG_putq d_DS_init_92 xf_DS_61 (Or.inr ⟨rfl, rfl⟩) rfl (by simp only [List.append_assoc]; exact sh_0 hT) ?_
  have g6 := nst (a := a) (f := 10) (v := some (a + 248)) hf6
  -- what is left of each step at the end
  have q5 := g6.2
  have q4 : ∀ c k, c < a + 227 → ¬ (c = a ∧ (k = 9 ∨ k = 10)) → xu P6 a 10 (some (a + 248)) c k = xu P4 a 8 (some (a + 21)) c k := fun c k h1 h2 => (g6.2 c k (by omega) (by omega)).trans (g5.2 c k (by omega) (by omega))
  have q3 : ∀ c k, c < a + 21 → ¬ (c = a ∧ (k = 8 ∨ k = 9 ∨ k = 10)) → xu P6 a 10 (some (a + 248)) c k = xu P3 a 7 (some (a + 17)) c k := fun c k h1 h2 => (q4 c k (by omega) (by omega)).trans (g4.2 c k (by omega) (by omega))
  have q2 : ∀ c k, c < a + 17 → ¬ (c = a ∧ (k = 7 ∨ k = 8 ∨ k = 9 ∨ k = 10)) → xu P6 a 10 (some (a + 248)) c k = xu P2 a 6 (some (a + 13)) c k := fun c k h1 h2 => (q3 c k (by omega) (by omega)).trans (g3.2 c k (by omega) (by omega))
  have q1 : ∀ c k, c < a + 13 → ¬ (c = a ∧ (k = 6 ∨ k = 7 ∨ k = 8 ∨ k = 9 ∨ k = 10)) → xu P6 a 10 (some (a + 248)) c k = xu P1 a 5 (some (a + 1)) c k := fun c k h1 h2 => (q2 c k (by omega) (by omega)).trans (g2.2 c k (by omega) (by omega))
  have q0 : ∀ c k, c < a + 1 → ¬ (c = a ∧ (k = 5 ∨ k = 6 ∨ k = 7 ∨ k = 8 ∨ k = 9 ∨ k = 10)) → xu P6 a 10 (some (a + 248)) c k = xu P a 2 none c k := fun c k h1 h2 => (q1 c k (by omega) (by omega)).trans (g1.2 c k (by omega) (by omega))
  have i4 : ∀ c k, c < a + 227 → I6 c k = I4 c k := fun c k h1 => (g6.1 c k (by omega)).trans (g5.1 c k (by omega))
  have i0 : ∀ c k, c < a + 1 → I6 c k = xu (xu (xu (xu I a 0 0) a 1 1) a 3 (-1)) a 4 0 c k := fun c k h1 => (i4 c k (by omega)).trans ((g4.1 c k (by omega)).trans ((g3.1 c k (by omega)).trans ((g2.1 c k (by omega)).trans (g1.1 c k (by omega)))))
  refine xG_return d_DS_init_95 rfl ⟨rfl, by simp [shDS], fun c k hc => ⟨(i0 c k (by omega)).trans ?_, (q0 c k (by omega) (by omega)).trans (xu_other (by omega))⟩, ⟨?_, ?_, ?_, ?_, ?_⟩, ⟨?_, ?_, ?_, ?_, ?_, xu_at⟩, ?_, ?_, ?_, ?_, ?_, ?_, ?_⟩
  · have h0 : c ≠ a := by omega
    simp [xu, h0]
  · refine (i0 a 0 (by omega)).trans ?_; simp [xu]
  · refine (i0 a 1 (by omega)).trans ?_; simp [xu]
  · exact (q0 a 2 (by omega) (by omega)).trans xu_at
  · refine (i0 a 3 (by omega)).trans ?_; simp [xu]
  · refine (i0 a 4 (by omega)).trans ?_; simp [xu]
  · exact (q1 a 5 (by omega) (by omega)).trans xu_at
  · exact (q2 a 6 (by omega) (by omega)).trans xu_at
  · exact (q3 a 7 (by omega) (by omega)).trans xu_at
  · exact (q4 a 8 (by omega) (by omega)).trans xu_at
  · exact (q5 a 9 (by omega) (by omega)).trans xu_at
  · exact hk1.keep (fun c k h1 h2 => (q1 c k (by omega) (by omega)).trans (xu_other (by omega)))
  · exact hk2.keep (fun c k h1 h2 => (q2 c k (by omega) (by omega)).trans (xu_other (by omega)))
  · exact hk3.keep (fun c k h1 h2 => (q3 c k (by omega) (by omega)).trans (xu_other (by omega)))
  · exact hk4.keep (fun c k h1 h2 => i4 c k (by omega)) (fun c k h1 h2 => (q4 c k (by omega) (by omega)).trans (xu_other (by omega)))
  · exact hk5.keep (fun c k h1 h2 => (q5 c k (by omega) (by omega)).trans (xu_other (by omega)))
  · exact (xu_other (by omega)).trans hk6.1
  · exact hk6.2
end XNE

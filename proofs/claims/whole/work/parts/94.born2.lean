/-! constructors of entries, the tree, the editor, requests, the class -/
def sE (r t : Nat) : xSh := (5, 0) :: (66, 5) :: (List.replicate t (shV r)).flatten
def sT (i : Nat) : xSh := (4, 0) :: (67, 12) :: (List.replicate i (sE 3 5)).flatten
theorem sE_len (r t : Nat) : (sE r t).length = 2 + 3 * t := by
  simp [sE, List.length_flatten, shV]; omega
theorem sT_len (i : Nat) : (sT i).length = 2 + 17 * i := by
  simp [sT, List.length_flatten, sE_len]; omega
theorem sE_succ (r t : Nat) : sE r t ++ shV r = sE r (t + 1) := by
  simp [sE, List.replicate_succ', List.flatten_append]
theorem sT_succ (i : Nat) : sT i ++ sE 3 5 = sT (i + 1) := by
  simp [sT, List.replicate_succ', List.flatten_append]
def kE (e : Nat) (P : xPt) : Prop := P e 0 = some (e + 1) ∧ ∀ u, u < 5 → P (e + 1) u = some (e + 2 + 3 * u) ∧ kV (e + 2 + 3 * u) P
def kTR (a : Nat) (I : xIt) (P : xPt) : Prop := I a 1 = 0 ∧ P a 0 = some (a + 1) ∧ ∀ i, i < 12 → P (a + 1) i = some (a + 2 + 17 * i) ∧ kE (a + 2 + 17 * i) P
theorem kV.keep {e : Nat} {P P' : xPt} (h : kV e P) (hP : ∀ c k, e ≤ c → c < e + 3 → P' c k = P c k) : kV e P' := ⟨(hP e 0 (by omega) (by omega)).trans h.1, (hP e 1 (by omega) (by omega)).trans h.2⟩
theorem kE.keep {e : Nat} {P P' : xPt} (h : kE e P) (hP : ∀ c k, e ≤ c → c < e + 17 → P' c k = P c k) : kE e P' := ⟨(hP e 0 (by omega) (by omega)).trans h.1, fun u hu => ⟨(hP (e + 1) u (by omega) (by omega)).trans (h.2 u hu).1, (h.2 u hu).2.keep (fun c k h1 h2 => hP c k (by omega) (by omega))⟩⟩
theorem kTR.keep {a : Nat} {I I' : xIt} {P P' : xPt} (h : kTR a I P) (hI : ∀ c k, a ≤ c → c < a + 206 → I' c k = I c k) (hP : ∀ c k, a ≤ c → c < a + 206 → P' c k = P c k) : kTR a I' P' := ⟨(hI a 1 (by omega) (by omega)).trans h.1, (hP a 0 (by omega) (by omega)).trans h.2.1, fun i hi => ⟨(hP (a + 1) i (by omega) (by omega)).trans (h.2.2 i hi).1, (h.2.2 i hi).2.keep (fun c k h1 h2 => hP c k (by omega) (by omega))⟩⟩
theorem kNM.keep {e : Nat} {P P' : xPt} (h : kNM e P) (hP : ∀ c k, e ≤ c → c < e + 4 → P' c k = P c k) : kNM e P' := ⟨(hP e 0 (by omega) (by omega)).trans h.1, (hP e 1 (by omega) (by omega)).trans h.2.1, (hP e 2 (by omega) (by omega)).trans h.2.2⟩
theorem kFL.keep {e : Nat} {P P' : xPt} (h : kFL e P) (hP : ∀ c k, e ≤ c → c < e + 7 → P' c k = P c k) : kFL e P' := by
  obtain ⟨h0, h1, h2, h3, h4, h5⟩ := h
  exact ⟨(hP e 0 (by omega) (by omega)).trans h0, (hP e 1 (by omega) (by omega)).trans h1, (hP e 2 (by omega) (by omega)).trans h2, (hP e 3 (by omega) (by omega)).trans h3, (hP e 4 (by omega) (by omega)).trans h4, (hP e 5 (by omega) (by omega)).trans h5⟩
section XND
variable {l : Launch} {V : xV} {T : xSh} {I : xIt} {J : xJt} {P : xPt} {a : Nat}
set_option maxRecDepth 20000 in
theorem n_EN {r : Nat} (hr : r ≤ 100) (hT : T.length = a) : xMet l V y_EN_init 2 16 (5 + (3 + (r + r)) * 5) [xq (some a), xi (nI r)] (T ++ [(5, 0)]) I J P (Pn T a (sE r 5) I P (fun _ P' => kE a P')) := by
  refine xMet_of (by decide) (Nat.le_of_ble_eq_true rfl) ?_
  have loop : ∀ (g t : Nat) (I1 : xIt) (J1 : xJt) (P1 : xPt) (bb : Nat × Nat), g + t = 5 → 3 * g ≤ bb.1 → (3 + (r + r)) * g ≤ bb.2 → (∀ c k, c < a → I1 c k = I c k ∧ P1 c k = P c k) → P1 a 0 = some (a + 1) → (∀ u, u < t → P1 (a + 1) u = some (a + 2 + 3 * u) ∧ kV (a + 2 + 3 * u) P1) → xG l V y_EN_init (xR 2 16 (5 + (3 + (r + r)) * 5)) (xFn V y_EN_init (xR 2 16 (5 + (3 + (r + r)) * 5)) (Pn T a (sE r 5) I P (fun _ P' => kE a P'))) 29 [(2, xi (nI t)), (0, xq (some a)), (1, xi (nI r))] [] (T ++ sE r t) I1 J1 P1 bb := by
    intro g
    induction g with
    | zero =>
      intro t I1 J1 P1 bb ht hb1 hb2 hf h0 hu
      have ht : t = 5 := by omega
      subst ht
      refine xG_iload_n d_EN_init_29 rfl rfl ?_
      refine xG_iconst (v := 5) d_EN_init_30 rfl ?_
      refine xG_icmp_ge (tgt := 54) d_EN_init_31 (by decide) (fun _ => ?_) (fun z => absurd (by decide) z)
      exact xG_return d_EN_init_54 rfl ⟨rfl, rfl, hf, h0, hu⟩
    | succ g ih =>
      intro t I1 J1 P1 bb ht hb1 hb2 hf h0 hu
      have hlt : (T ++ sE r t).length = a + 2 + 3 * t := by rw [List.length_append, hT, sE_len]; omega
      have hmul : (3 + (r + r)) * (g + 1) = (3 + (r + r)) * g + (3 + (r + r)) := Nat.mul_succ _ _
      refine xG_iload_n d_EN_init_29 rfl rfl ?_
      refine xG_iconst (v := 5) d_EN_init_30 rfl ?_
      refine xG_icmp_ge (tgt := 54) d_EN_init_31 (by decide) (fun z => ?_) (fun _ => ?_)
      · have : (5 : Nat) ≤ t := (nI_leI (a := 5) (b := t) (by omega) (by omega)).mp z
        omega
      refine xG_aload_n d_EN_init_34 rfl rfl rfl ?_
      refine xG_getq d_EN_init_35 xf_EN_11 rfl (sh_0 hT) ?_
      refine xG_topq h0 ?_
      refine xG_iload_n d_EN_init_38 rfl rfl ?_
      refine xG_new' (s := a + 2 + 3 * t) (ci := 6) (N := 3) hlt d_EN_init_39 ⟨_, _, rfl, w1_153, w1_155, w1_7⟩ (by omega) (by omega) ?_
      refine xG_dup d_EN_init_42 rfl ?_
      refine xG_iload_n d_EN_init_43 rfl rfl ?_
      refine xG_calln (as := [xi (nI r)]) (rest := [xq (some (a + 2 + 3 * t)), xi (nI t), xq (some (a + 1))]) d_EN_init_44 yi_VR_init w1_156 rfl rfl rfl (n_VR (T := T ++ sE r t) hr hlt) ⟨Nat.le_of_ble_eq_true rfl, Nat.le_of_ble_eq_true rfl⟩ (Nat.le_of_ble_eq_true rfl) ⟨by dsimp only; omega, by dsimp only; omega⟩ (fun q S2 I2 J2 P2 hp => ?_)
      obtain ⟨rfl, rfl, hf2, hk2⟩ := hp
      have e1 : T ++ sE r t ++ shV r = T ++ sE r (t + 1) := by rw [List.append_assoc, sE_succ]
      rw [e1]
      have g2 : ∀ c k, c < a + 2 + 3 * t → I2 c k = I1 c k ∧ P2 c k = P1 c k := fun c k hc => ⟨(hf2 c k hc).1.trans (by rw [xz_ne (by omega)]), (hf2 c k hc).2.trans (by rw [xz_ne (by omega)])⟩
      have hS1 : (T ++ sE r (t + 1))[a + 1]? = some (66, 5) := sh_at (j := 1) hT rfl
      refine xG_aast (t := 0) d_EN_init_47 rfl hS1 rfl (fun v hv => ?_) (pk_in t 5 (by omega)) ?_
      · cases hv
        refine ⟨6, 0, ?_, by decide, rfl⟩
        have : (T ++ sE r (t + 1))[a + (2 + 3 * t)]? = some (6, 0) := by
          refine sh_at hT ?_
          rw [← sE_succ, List.getElem?_append_right (by rw [sE_len]; omega), sE_len, Nat.sub_self]
          rfl
        rw [show a + 2 + 3 * t = a + (2 + 3 * t) by omega]
        exact this
      rw [ncl t]
      refine xG_iinc (v := nI (t + 1)) (lv' := [(2, xi (nI (t + 1))), (0, xq (some a)), (1, xi (nI r))]) d_EN_init_48 rfl (nI_1 t) (Nat.le_of_ble_eq_true rfl) rfl ?_
      refine xG_goto (tgt := 29) d_EN_init_51 (by decide) ?_
      refine ih (t + 1) _ _ _ _ (by omega) (by dsimp only; omega) (by dsimp only; omega) (fun c k hc => ⟨((g2 c k (by omega)).1).trans (hf c k hc).1, (xu_other (by omega)).trans ((g2 c k (by omega)).2.trans (hf c k hc).2)⟩) ((xu_other (by omega)).trans ((g2 a 0 (by omega)).2.trans h0)) (fun u hu' => ?_)
      by_cases hut : u = t
      · subst hut
        exact ⟨xu_at, hk2.keep (fun c k h1 h2 => xu_other (by omega))⟩
      · have := hu u (by omega)
        exact ⟨(xu_other (by omega)).trans ((g2 (a + 1) u (by omega)).2.trans this.1), this.2.keep (fun c k h1 h2 => (xu_other (by omega)).trans (g2 c k (by omega)).2)⟩
  refine xG_aload_n d_EN_init_0 rfl rfl rfl ?_
  refine xG_objInit d_EN_init_1 w1_152 w1_20 w_oi rfl ⟨Nat.le_of_ble_eq_true rfl, Nat.le_of_ble_eq_true rfl⟩ (Nat.le_of_ble_eq_true rfl) ?_
  refine xG_aload_n d_EN_init_4 rfl rfl rfl ?_
  refine xG_iconst (v := 5) d_EN_init_5 rfl ?_
  refine xG_newq' (s := a + 1) (N := 5) (t := 0) (j := 0) (by simp [hT]) d_EN_init_6 w1_153 rfl rfl (by decide) (by decide) (by decide) (by dsimp only; omega) (by dsimp only; omega) ?_
  refine xG_putq d_EN_init_9 xf_EN_11 (Or.inr ⟨rfl, rfl⟩) rfl (by simp only [List.append_assoc]; exact sh_0 hT) ?_
  refine xG_aload_n d_EN_init_12 rfl rfl rfl ?_
  refine xG_null d_EN_init_13 ?_
  refine xG_putq d_EN_init_14 xf_EN_17 (Or.inl rfl) rfl (by simp only [List.append_assoc]; exact sh_0 hT) ?_
  refine xG_aload_n d_EN_init_17 rfl rfl rfl ?_
  refine xG_iconst (v := 1) d_EN_init_18 rfl ?_
  refine xG_puti d_EN_init_19 xf_EN_21 (Or.inl rfl) rfl (by simp only [List.append_assoc]; exact sh_0 hT) rfl rfl ?_
  refine xG_aload_n d_EN_init_22 rfl rfl rfl ?_
  refine xG_lconst (v := 0) d_EN_init_23 rfl ?_
  refine xG_putj d_EN_init_24 xf_EN_27 (Or.inl rfl) rfl (by simp only [List.append_assoc]; exact sh_0 hT) ?_
  refine xG_iconst (v := 0) d_EN_init_27 rfl ?_
  refine xG_istore_n (lv' := [(2, xi 0), (0, xq (some a)), (1, xi (nI r))]) d_EN_init_28 rfl (Nat.le_of_ble_eq_true rfl) rfl ?_
  rw [show T ++ [(5, 0)] ++ [(0 + 66, 5)] = T ++ sE r 0 by simp [sE]]
  refine loop 5 0 _ _ _ _ rfl (by dsimp only; omega) (by dsimp only; omega) (fun c k hc => ?_) ?_ (fun u hu => by omega)
  · have h0 : c ≠ a := by omega
    have h1 : c ≠ a + 1 := by omega
    constructor <;> simp [xu, xz, h0, h1]
  · simp [xu, xz]
set_option maxRecDepth 20000 in
theorem n_TR (hT : T.length = a) : xMet l V y_TR_init 3 205 660 [xq (some a)] (T ++ [(4, 0)]) I J P (Pn T a (sT 12) I P (kTR a)) := by
  refine xMet_of (by decide) (Nat.le_of_ble_eq_true rfl) ?_
  have loop : ∀ (g t : Nat) (I1 : xIt) (J1 : xJt) (P1 : xPt) (bb : Nat × Nat), g + t = 12 → 17 * g ≤ bb.1 → 54 * g ≤ bb.2 → (∀ c k, c < a → I1 c k = I c k ∧ P1 c k = P c k) → I1 a 1 = 0 → P1 a 0 = some (a + 1) → (∀ u, u < t → P1 (a + 1) u = some (a + 2 + 17 * u) ∧ kE (a + 2 + 17 * u) P1) → xG l V y_TR_init (xR 3 205 660) (xFn V y_TR_init (xR 3 205 660) (Pn T a (sT 12) I P (kTR a))) 20 [(1, xi (nI t)), (0, xq (some a))] [] (T ++ sT t) I1 J1 P1 bb := by
    intro g
    induction g with
    | zero =>
      intro t I1 J1 P1 bb ht hb1 hb2 hf hi h0 hu
      have ht : t = 12 := by omega
      subst ht
      refine xG_iload_n d_TR_init_20 rfl rfl ?_
      refine xG_bipush (v := 12) d_TR_init_21 rfl ?_
      refine xG_icmp_ge (tgt := 46) d_TR_init_23 (by decide) (fun _ => ?_) (fun z => absurd (by decide) z)
      exact xG_return d_TR_init_46 rfl ⟨rfl, rfl, hf, hi, h0, hu⟩
    | succ g ih =>
      intro t I1 J1 P1 bb ht hb1 hb2 hf hi h0 hu
      have hlt : (T ++ sT t).length = a + 2 + 17 * t := by rw [List.length_append, hT, sT_len]; omega
      refine xG_iload_n d_TR_init_20 rfl rfl ?_
      refine xG_bipush (v := 12) d_TR_init_21 rfl ?_
      refine xG_icmp_ge (tgt := 46) d_TR_init_23 (by decide) (fun z => ?_) (fun _ => ?_)
      · have : (12 : Nat) ≤ t := (nI_leI (a := 12) (b := t) (by omega) (by omega)).mp z
        omega
      refine xG_aload_n d_TR_init_26 rfl rfl rfl ?_
      refine xG_getq d_TR_init_27 xf_TR_11 rfl (sh_0 hT) ?_
      refine xG_topq h0 ?_
      refine xG_iload_n d_TR_init_30 rfl rfl ?_
      refine xG_new' (s := a + 2 + 17 * t) (ci := 5) (N := 4) hlt d_TR_init_31 ⟨_, _, rfl, w1_146, w1_148, w1_6⟩ (by omega) (by omega) ?_
      refine xG_dup d_TR_init_34 rfl ?_
      refine xG_iconst (v := 3) d_TR_init_35 rfl ?_
      refine xG_calln (as := [xi (nI 3)]) (rest := [xq (some (a + 2 + 17 * t)), xi (nI t), xq (some (a + 1))]) d_TR_init_36 yi_EN_init w1_149 rfl rfl rfl (n_EN (T := T ++ sT t) (r := 3) (by omega) hlt) ⟨Nat.le_of_ble_eq_true rfl, Nat.le_of_ble_eq_true rfl⟩ (Nat.le_of_ble_eq_true rfl) ⟨by dsimp only; omega, by dsimp only; omega⟩ (fun q S2 I2 J2 P2 hp => ?_)
      obtain ⟨rfl, rfl, hf2, hk2⟩ := hp
      have e1 : T ++ sT t ++ sE 3 5 = T ++ sT (t + 1) := by rw [List.append_assoc, sT_succ]
      rw [e1]
      have g2 : ∀ c k, c < a + 2 + 17 * t → I2 c k = I1 c k ∧ P2 c k = P1 c k := fun c k hc => ⟨(hf2 c k hc).1.trans (by rw [xz_ne (by omega)]), (hf2 c k hc).2.trans (by rw [xz_ne (by omega)])⟩
      have hS1 : (T ++ sT (t + 1))[a + 1]? = some (67, 12) := sh_at (j := 1) hT rfl
      refine xG_aast (t := 1) d_TR_init_39 rfl hS1 rfl (fun v hv => ?_) (pk_in t 12 (by omega)) ?_
      · cases hv
        refine ⟨5, 0, ?_, by decide, rfl⟩
        have : (T ++ sT (t + 1))[a + (2 + 17 * t)]? = some (5, 0) := by
          refine sh_at hT ?_
          rw [← sT_succ, List.getElem?_append_right (by rw [sT_len]; omega), sT_len, Nat.sub_self]
          rfl
        rw [show a + 2 + 17 * t = a + (2 + 17 * t) by omega]
        exact this
      rw [ncl t]
      refine xG_iinc (v := nI (t + 1)) (lv' := [(1, xi (nI (t + 1))), (0, xq (some a))]) d_TR_init_40 rfl (nI_1 t) (Nat.le_of_ble_eq_true rfl) rfl ?_
      refine xG_goto (tgt := 20) d_TR_init_43 (by decide) ?_
      refine ih (t + 1) _ _ _ _ (by omega) (by dsimp only; omega) (by dsimp only; omega) (fun c k hc => ⟨((g2 c k (by omega)).1).trans (hf c k hc).1, (xu_other (by omega)).trans ((g2 c k (by omega)).2.trans (hf c k hc).2)⟩) ((g2 a 1 (by omega)).1.trans hi) ((xu_other (by omega)).trans ((g2 a 0 (by omega)).2.trans h0)) (fun u hu' => ?_)
      by_cases hut : u = t
      · subst hut
        exact ⟨xu_at, hk2.keep (fun c k h1 h2 => xu_other (by omega))⟩
      · have := hu u (by omega)
        exact ⟨(xu_other (by omega)).trans ((g2 (a + 1) u (by omega)).2.trans this.1), this.2.keep (fun c k h1 h2 => (xu_other (by omega)).trans (g2 c k (by omega)).2)⟩
  refine xG_aload_n d_TR_init_0 rfl rfl rfl ?_
  refine xG_objInit d_TR_init_1 w1_145 w1_20 w_oi rfl ⟨Nat.le_of_ble_eq_true rfl, Nat.le_of_ble_eq_true rfl⟩ (Nat.le_of_ble_eq_true rfl) ?_
  refine xG_aload_n d_TR_init_4 rfl rfl rfl ?_
  refine xG_bipush (v := 12) d_TR_init_5 rfl ?_
  refine xG_newq' (s := a + 1) (N := 12) (t := 1) (j := 1) (by simp [hT]) d_TR_init_7 w1_146 rfl rfl (by decide) (by decide) (by decide) (by decide) (by decide) ?_
  refine xG_putq d_TR_init_10 xf_TR_11 (Or.inr ⟨rfl, rfl⟩) rfl (by simp only [List.append_assoc]; exact sh_0 hT) ?_
  refine xG_aload_n d_TR_init_13 rfl rfl rfl ?_
  refine xG_iconst (v := 0) d_TR_init_14 rfl ?_
  refine xG_puti d_TR_init_15 xf_TR_17 (Or.inl rfl) rfl (by simp only [List.append_assoc]; exact sh_0 hT) rfl rfl ?_
  refine xG_iconst (v := 0) d_TR_init_18 rfl ?_
  refine xG_istore_n (lv' := [(1, xi 0), (0, xq (some a))]) d_TR_init_19 rfl (Nat.le_of_ble_eq_true rfl) rfl ?_
  rw [show T ++ [(4, 0)] ++ [(1 + 66, 12)] = T ++ sT 0 by simp [sT]]
  refine loop 12 0 _ _ _ _ rfl (by decide) (by decide) (fun c k hc => ?_) ?_ ?_ (fun u hu => by omega)
  · have h0 : c ≠ a := by omega
    have h1 : c ≠ a + 1 := by omega
    constructor <;> simp [xu, xz, h0, h1]
  · simp [xu, xz]
  · simp [xu, xz]
end XND

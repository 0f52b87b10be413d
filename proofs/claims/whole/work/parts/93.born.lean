/-! constructors -/
theorem w_oi : Jvm.Cond.code objectInit ⟨#[0xb1]⟩ 1 none ∈ xTB := x_w1 (List.mem_of_getElem? (i := 21) (by rfl)) rfl
theorem sh_at {T U : xSh} {a j : Nat} {q : Nat × Nat} (hT : T.length = a) (h : U[j]? = some q) : (T ++ U)[a + j]? = some q := by
  rw [List.getElem?_append_right (by omega), show a + j - T.length = j by omega]; exact h
theorem sh_0 {T U : xSh} {a : Nat} {q : Nat × Nat} (hT : T.length = a) : (T ++ q :: U)[a]? = some q := sh_at (j := 0) hT rfl
section XNB
variable {l : Launch} {V : xV} {y : xY} {R : Room} {F : xFin} {pc pc' : Nat} {lv lv' : List (Nat × xX)} {st : List xX} {S : xSh} {I : xIt} {J : xJt} {P : xPt} {b : Nat × Nat}
theorem xG_newi' {n : Int32} {N s : Nat} (hs : S.length = s) (hd : xd y pc 2 pc' (.newarray .int)) (hn : ¬ n < 0) (hN : n.toNatClampNeg = N) (hb : N ≤ 100000) (hb1 : 1 ≤ b.1) (hb2 : N ≤ b.2) (kk : xG l V y R F pc' lv (xq (some s) :: st) (S ++ [(64, N)]) (xz I s 0) (xz J s 0) (xz P s none) (b.1 - 1, b.2 - N)) : xG l V y R F pc lv (xi n :: st) S I J P b := by
  subst hs
  have h := xG_newi hd w1_56 hn hN hb kk
  rwa [show (b.1 - 1 + 1, b.2 - N + N) = b by rw [Nat.sub_add_cancel hb1, Nat.sub_add_cancel hb2]] at h
theorem xG_newj' {n : Int32} {N s : Nat} (hs : S.length = s) (hd : xd y pc 2 pc' (.newarray .long)) (hn : ¬ n < 0) (hN : n.toNatClampNeg = N) (hb : N ≤ 100000) (hb1 : 1 ≤ b.1) (hb2 : N ≤ b.2) (kk : xG l V y R F pc' lv (xq (some s) :: st) (S ++ [(65, N)]) (xz I s 0) (xz J s 0) (xz P s none) (b.1 - 1, b.2 - N)) : xG l V y R F pc lv (xi n :: st) S I J P b := by
  subst hs
  have h := xG_newj hd w1_57 hn hN hb kk
  rwa [show (b.1 - 1 + 1, b.2 - N + N) = b by rw [Nat.sub_add_cancel hb1, Nat.sub_add_cancel hb2]] at h
theorem xG_newq' {n : Int32} {N s t idx j : Nat} {C : String} (hs : S.length = s) (hd : xd y pc 3 pc' (.anewarray idx)) (hl : Jvm.Cond.classLink y.1.cls idx C ∈ xTB) (hw : xAo[j]? = some C) (ht : xAt[t + 2]? = some (.object C)) (hn : ¬ n < 0) (hN : n.toNatClampNeg = N) (hb : N ≤ 100000) (hb1 : 1 ≤ b.1) (hb2 : N ≤ b.2) (kk : xG l V y R F pc' lv (xq (some s) :: st) (S ++ [(t + 66, N)]) (xz I s 0) (xz J s 0) (xz P s none) (b.1 - 1, b.2 - N)) : xG l V y R F pc lv (xi n :: st) S I J P b := by
  subst hs
  have h := xG_newq hd hl hw ht hn hN hb kk
  rwa [show (b.1 - 1 + 1, b.2 - N + N) = b by rw [Nat.sub_add_cancel hb1, Nat.sub_add_cancel hb2]] at h
theorem xG_new' {idx ci N s : Nat} (hs : S.length = s) (hd : xd y pc 3 pc' (.new idx)) (hc : xNw y idx ci N) (hb1 : 1 ≤ b.1) (hb2 : N ≤ b.2) (kk : xG l V y R F pc' lv (xq (some s) :: st) (S ++ [(ci, 0)]) (xz I s 0) (xz J s 0) (xz P s none) (b.1 - 1, b.2 - N)) : xG l V y R F pc lv st S I J P b := by
  subst hs
  have h := xG_new hd hc kk
  rwa [show (b.1 - 1 + 1, b.2 - N + N) = b by rw [Nat.sub_add_cancel hb1, Nat.sub_add_cancel hb2]] at h
end XNB
section XNC
variable {l : Launch} {V : xV} {T : xSh} {I : xIt} {J : xJt} {P : xPt} {a : Nat}
/-- a constructor of the object a, the last of the cells: sh are the cells from it on; nothing before it changes -/
def Pn (T : xSh) (a : Nat) (sh : xSh) (I : xIt) (P : xPt) (K : xIt → xPt → Prop) : xPo := fun q S' I' _ P' => q = none ∧ S' = T ++ sh ∧ (∀ c k, c < a → I' c k = I c k ∧ P' c k = P c k) ∧ K I' P'
def shV (r : Nat) : xSh := [(6, 0), (65, r), (65, r)]
def kV (a : Nat) (P : xPt) : Prop := P a 0 = some (a + 1) ∧ P a 1 = some (a + 2)
theorem n_VR {r : Nat} (hr : r ≤ 100) (hT : T.length = a) : xMet l V y_VR_init 1 2 (r + r) [xq (some a), xi (nI r)] (T ++ [(6, 0)]) I J P (Pn T a (shV r) I P (fun _ P' => kV a P')) := by
  refine xMet_of (by decide) (Nat.le_of_ble_eq_true rfl) ?_
  refine xG_aload_n d_VR_init_0 rfl rfl rfl ?_
  refine xG_objInit d_VR_init_1 w1_159 w1_20 w_oi rfl ⟨Nat.le_refl _, Nat.le_of_ble_eq_true rfl⟩ (Nat.le_of_ble_eq_true rfl) ?_
  refine xG_aload_n d_VR_init_4 rfl rfl rfl ?_
  refine xG_iconst (v := 0) d_VR_init_5 rfl ?_
  refine xG_puti d_VR_init_6 xf_VR_7 (Or.inl rfl) rfl (sh_0 hT) rfl rfl ?_
  refine xG_aload_n d_VR_init_9 rfl rfl rfl ?_
  refine xG_iload_n d_VR_init_10 rfl rfl ?_
  refine xG_newj' (s := a + 1) (N := r) (by simp [hT]) d_VR_init_11 (nI_pos (by omega)) (ncl r) (by omega) (by dsimp only; omega) (by dsimp only; omega) ?_
  refine xG_putq d_VR_init_13 xf_VR_13 (Or.inr ⟨rfl, rfl⟩) rfl (by rw [List.append_assoc]; exact sh_0 hT) ?_
  refine xG_aload_n d_VR_init_16 rfl rfl rfl ?_
  refine xG_iload_n d_VR_init_17 rfl rfl ?_
  refine xG_newj' (s := a + 2) (N := r) (by simp [hT]) d_VR_init_18 (nI_pos (by omega)) (ncl r) (by omega) (by dsimp only; omega) (by dsimp only; omega) ?_
  refine xG_putq d_VR_init_20 xf_VR_17 (Or.inr ⟨rfl, rfl⟩) rfl (by rw [List.append_assoc, List.append_assoc]; exact sh_0 hT) ?_
  refine xG_return d_VR_init_23 rfl ⟨rfl, by simp [shV], fun c k hc => ?_, ?_, ?_⟩
  · have h0 : c ≠ a := by omega
    have h1 : c ≠ a + 1 := by omega
    have h2 : c ≠ a + 2 := by omega
    constructor <;> simp [xu, xz, h0, h1, h2]
  · simp [xu, xz]
  · simp [xu, xz]
def shNM : xSh := [(3, 0), (64, 3), (65, 3), (65, 3)]
def kNM (a : Nat) (P : xPt) : Prop := P a 0 = some (a + 1) ∧ P a 1 = some (a + 2) ∧ P a 2 = some (a + 3)
set_option maxRecDepth 20000 in
theorem n_NM (hT : T.length = a) : xMet l V y_NM_init 1 3 9 [xq (some a)] (T ++ [(3, 0)]) I J P (Pn T a shNM I P (fun _ P' => kNM a P')) := by
  refine xMet_of (by decide) (Nat.le_of_ble_eq_true rfl) ?_
  refine xG_aload_n d_NM_init_0 rfl rfl rfl ?_
  refine xG_objInit d_NM_init_1 w1_116 w1_20 w_oi rfl ⟨Nat.le_refl _, Nat.le_of_ble_eq_true rfl⟩ (Nat.le_of_ble_eq_true rfl) ?_
  refine xG_aload_n d_NM_init_4 rfl rfl rfl ?_
  refine xG_iconst (v := 3) d_NM_init_5 rfl ?_
  refine xG_newi' (s := a + 1) (N := 3) (by simp [hT]) d_NM_init_6 (by decide) (by decide) (by decide) (by decide) (by decide) ?_
  refine xG_putq d_NM_init_8 xf_NM_9 (Or.inr ⟨rfl, rfl⟩) rfl (by simp only [List.append_assoc]; exact sh_0 hT) ?_
  refine xG_aload_n d_NM_init_11 rfl rfl rfl ?_
  refine xG_iconst (v := 3) d_NM_init_12 rfl ?_
  refine xG_newj' (s := a + 2) (N := 3) (by simp [hT]) d_NM_init_13 (by decide) (by decide) (by decide) (by decide) (by decide) ?_
  refine xG_putq d_NM_init_15 xf_NM_15 (Or.inr ⟨rfl, rfl⟩) rfl (by simp only [List.append_assoc]; exact sh_0 hT) ?_
  refine xG_aload_n d_NM_init_18 rfl rfl rfl ?_
  refine xG_iconst (v := 3) d_NM_init_19 rfl ?_
  refine xG_newj' (s := a + 3) (N := 3) (by simp [hT]) d_NM_init_20 (by decide) (by decide) (by decide) (by decide) (by decide) ?_
  refine xG_putq d_NM_init_22 xf_NM_19 (Or.inr ⟨rfl, rfl⟩) rfl (by simp only [List.append_assoc]; exact sh_0 hT) ?_
  refine xG_aload_n d_NM_init_25 rfl rfl rfl ?_
  refine xG_iconst (v := 0) d_NM_init_26 rfl ?_
  refine xG_puti d_NM_init_27 xf_NM_22 (Or.inl rfl) rfl (by simp only [List.append_assoc]; exact sh_0 hT) rfl rfl ?_
  refine xG_return d_NM_init_30 rfl ⟨rfl, by simp [shNM], fun c k hc => ?_, ?_, ?_, ?_⟩
  · have h0 : c ≠ a + 0 := by omega
    have h1 : c ≠ a + 1 := by omega
    have h2 : c ≠ a + 2 := by omega
    have h3 : c ≠ a + 3 := by omega
    rw [Nat.add_zero] at h0
    constructor <;> simp [xu, xz, h0, h1, h2, h3]
  · simp [xu, xz]
  · simp [xu, xz]
  · simp [xu, xz]
def shFL : xSh := [(2, 0), (64, 12), (64, 12), (64, 12), (64, 12), (65, 12), (64, 12)]
def kFL (a : Nat) (P : xPt) : Prop := P a 0 = some (a + 1) ∧ P a 1 = some (a + 2) ∧ P a 2 = some (a + 3) ∧ P a 3 = some (a + 4) ∧ P a 4 = some (a + 5) ∧ P a 5 = some (a + 6)
set_option maxRecDepth 20000 in
theorem n_FL (hT : T.length = a) : xMet l V y_FL_init 1 6 72 [xq (some a)] (T ++ [(2, 0)]) I J P (Pn T a shFL I P (fun _ P' => kFL a P')) := by
  refine xMet_of (by decide) (Nat.le_of_ble_eq_true rfl) ?_
  refine xG_aload_n d_FL_init_0 rfl rfl rfl ?_
  refine xG_objInit d_FL_init_1 w1_33 w1_20 w_oi rfl ⟨Nat.le_refl _, Nat.le_of_ble_eq_true rfl⟩ (Nat.le_of_ble_eq_true rfl) ?_
  refine xG_aload_n d_FL_init_4 rfl rfl rfl ?_
  refine xG_bipush (v := 12) d_FL_init_5 rfl ?_
  refine xG_newi' (s := a + 1) (N := 12) (by simp [hT]) d_FL_init_7 (by decide) (by decide) (by decide) (by decide) (by decide) ?_
  refine xG_putq d_FL_init_9 xf_FL_11 (Or.inr ⟨rfl, rfl⟩) rfl (by simp only [List.append_assoc]; exact sh_0 hT) ?_
  refine xG_aload_n d_FL_init_12 rfl rfl rfl ?_
  refine xG_bipush (v := 12) d_FL_init_13 rfl ?_
  refine xG_newi' (s := a + 2) (N := 12) (by simp [hT]) d_FL_init_15 (by decide) (by decide) (by decide) (by decide) (by decide) ?_
  refine xG_putq d_FL_init_17 xf_FL_15 (Or.inr ⟨rfl, rfl⟩) rfl (by simp only [List.append_assoc]; exact sh_0 hT) ?_
  refine xG_aload_n d_FL_init_20 rfl rfl rfl ?_
  refine xG_bipush (v := 12) d_FL_init_21 rfl ?_
  refine xG_newi' (s := a + 3) (N := 12) (by simp [hT]) d_FL_init_23 (by decide) (by decide) (by decide) (by decide) (by decide) ?_
  refine xG_putq d_FL_init_25 xf_FL_18 (Or.inr ⟨rfl, rfl⟩) rfl (by simp only [List.append_assoc]; exact sh_0 hT) ?_
  refine xG_aload_n d_FL_init_28 rfl rfl rfl ?_
  refine xG_bipush (v := 12) d_FL_init_29 rfl ?_
  refine xG_newi' (s := a + 4) (N := 12) (by simp [hT]) d_FL_init_31 (by decide) (by decide) (by decide) (by decide) (by decide) ?_
  refine xG_putq d_FL_init_33 xf_FL_21 (Or.inr ⟨rfl, rfl⟩) rfl (by simp only [List.append_assoc]; exact sh_0 hT) ?_
  refine xG_aload_n d_FL_init_36 rfl rfl rfl ?_
  refine xG_bipush (v := 12) d_FL_init_37 rfl ?_
  refine xG_newj' (s := a + 5) (N := 12) (by simp [hT]) d_FL_init_39 (by decide) (by decide) (by decide) (by decide) (by decide) ?_
  refine xG_putq d_FL_init_41 xf_FL_24 (Or.inr ⟨rfl, rfl⟩) rfl (by simp only [List.append_assoc]; exact sh_0 hT) ?_
  refine xG_aload_n d_FL_init_44 rfl rfl rfl ?_
  refine xG_bipush (v := 12) d_FL_init_45 rfl ?_
  refine xG_newi' (s := a + 6) (N := 12) (by simp [hT]) d_FL_init_47 (by decide) (by decide) (by decide) (by decide) (by decide) ?_
  refine xG_putq d_FL_init_49 xf_FL_28 (Or.inr ⟨rfl, rfl⟩) rfl (by simp only [List.append_assoc]; exact sh_0 hT) ?_
  refine xG_aload_n d_FL_init_52 rfl rfl rfl ?_
  refine xG_iconst (v := 0) d_FL_init_53 rfl ?_
  refine xG_puti d_FL_init_54 xf_FL_31 (Or.inl rfl) rfl (by simp only [List.append_assoc]; exact sh_0 hT) rfl rfl ?_
  refine xG_return d_FL_init_57 rfl ⟨rfl, by simp [shFL], fun c k hc => ?_, ?_, ?_, ?_, ?_, ?_, ?_⟩
  · have h0 : c ≠ a + 0 := by omega
    have h1 : c ≠ a + 1 := by omega
    have h2 : c ≠ a + 2 := by omega
    have h3 : c ≠ a + 3 := by omega
    have h4 : c ≠ a + 4 := by omega
    have h5 : c ≠ a + 5 := by omega
    have h6 : c ≠ a + 6 := by omega
    rw [Nat.add_zero] at h0
    constructor <;> simp [xu, xz, h0, h1, h2, h3, h4, h5, h6]
  · simp [xu, xz]
  · simp [xu, xz]
  · simp [xu, xz]
  · simp [xu, xz]
  · simp [xu, xz]
  · simp [xu, xz]
def shAN : xSh := [(8, 0), (64, 1767)]
def kAN (a : Nat) (I I' : xIt) (P : xPt) : Prop := P a 0 = some (a + 1) ∧ I' a 1 = 0
set_option maxRecDepth 20000 in
theorem n_AN (hT : T.length = a) : xMet l V y_AN_init 1 1 1767 [xq (some a)] (T ++ [(8, 0)]) I J P (Pn T a shAN I P (kAN a I)) := by
  refine xMet_of (by decide) (Nat.le_of_ble_eq_true rfl) ?_
  refine xG_aload_n d_AN_init_0 rfl rfl rfl ?_
  refine xG_objInit d_AN_init_1 w1_235 w1_20 w_oi rfl ⟨Nat.le_refl _, Nat.le_of_ble_eq_true rfl⟩ (Nat.le_of_ble_eq_true rfl) ?_
  refine xG_aload_n d_AN_init_4 rfl rfl rfl ?_
  refine xG_sipush (v := 1767) d_AN_init_5 rfl ?_
  refine xG_newi' (s := a + 1) (N := 1767) (by simp [hT]) d_AN_init_8 (by decide) (by decide) (by decide) (by decide) (by decide) ?_
  refine xG_putq d_AN_init_10 xf_AN_11 (Or.inr ⟨rfl, rfl⟩) rfl (by simp only [List.append_assoc]; exact sh_0 hT) ?_
  refine xG_aload_n d_AN_init_13 rfl rfl rfl ?_
  refine xG_iconst (v := 0) d_AN_init_14 rfl ?_
  refine xG_puti d_AN_init_15 xf_AN_15 (Or.inl rfl) rfl (by simp only [List.append_assoc]; exact sh_0 hT) rfl rfl ?_
  refine xG_return d_AN_init_18 rfl ⟨rfl, by simp [shAN], fun c k hc => ?_, ?_, ?_⟩
  · have h0 : c ≠ a + 0 := by omega
    have h1 : c ≠ a + 1 := by omega
    rw [Nat.add_zero] at h0
    constructor <;> simp [xu, xz, h0, h1]
  · simp [xu, xz]
  · simp [xu, xz]
def shRF : xSh := [(9, 0), (64, 160), (64, 8), (64, 8), (64, 32), (64, 40), (64, 3), (64, 3), (64, 65), (64, 195), (64, 1170), (64, 195), (64, 1170), (64, 13), (64, 13), (64, 13), (64, 78), (64, 8), (64, 8), (64, 8), (64, 8), (64, 2048), (64, 256)]
def kRF (a : Nat) (I I' : xIt) (P : xPt) : Prop := P a 2 = some (a + 1) ∧ P a 19 = some (a + 2) ∧ P a 20 = some (a + 3) ∧ P a 22 = some (a + 4) ∧ P a 23 = some (a + 5) ∧ P a 25 = some (a + 6) ∧ P a 26 = some (a + 7) ∧ P a 28 = some (a + 8) ∧ P a 29 = some (a + 9) ∧ P a 30 = some (a + 10) ∧ P a 31 = some (a + 11) ∧ P a 32 = some (a + 12) ∧ P a 33 = some (a + 13) ∧ P a 34 = some (a + 14) ∧ P a 35 = some (a + 15) ∧ P a 36 = some (a + 16) ∧ P a 38 = some (a + 17) ∧ P a 39 = some (a + 18) ∧ P a 40 = some (a + 19) ∧ P a 41 = some (a + 20) ∧ P a 43 = some (a + 21) ∧ P a 45 = some (a + 22) ∧ I' a 37 = (-1) ∧ I' a 46 = (-1) ∧ (∀ k, k ≠ 37 → k ≠ 46 → I' a k = I a k)
set_option maxRecDepth 20000 in
theorem n_RF (hT : T.length = a) : xMet l V y_RF_init 1 22 5502 [xq (some a)] (T ++ [(9, 0)]) I J P (Pn T a shRF I P (kRF a I)) := by
  refine xMet_of (by decide) (Nat.le_of_ble_eq_true rfl) ?_
  refine xG_aload_n d_RF_init_0 rfl rfl rfl ?_
  refine xG_objInit d_RF_init_1 w4_28 w1_20 w_oi rfl ⟨Nat.le_refl _, Nat.le_of_ble_eq_true rfl⟩ (Nat.le_of_ble_eq_true rfl) ?_
  refine xG_aload_n d_RF_init_4 rfl rfl rfl ?_
  refine xG_sipush (v := 160) d_RF_init_5 rfl ?_
  refine xG_newi' (s := a + 1) (N := 160) (by simp [hT]) d_RF_init_8 (by decide) (by decide) (by decide) (by decide) (by decide) ?_
  refine xG_putq d_RF_init_10 xf_RF_7 (Or.inr ⟨rfl, rfl⟩) rfl (by simp only [List.append_assoc]; exact sh_0 hT) ?_
  refine xG_aload_n d_RF_init_13 rfl rfl rfl ?_
  refine xG_bipush (v := 8) d_RF_init_14 rfl ?_
  refine xG_newi' (s := a + 2) (N := 8) (by simp [hT]) d_RF_init_16 (by decide) (by decide) (by decide) (by decide) (by decide) ?_
  refine xG_putq d_RF_init_18 xf_RF_13 (Or.inr ⟨rfl, rfl⟩) rfl (by simp only [List.append_assoc]; exact sh_0 hT) ?_
  refine xG_aload_n d_RF_init_21 rfl rfl rfl ?_
  refine xG_bipush (v := 8) d_RF_init_22 rfl ?_
  refine xG_newi' (s := a + 3) (N := 8) (by simp [hT]) d_RF_init_24 (by decide) (by decide) (by decide) (by decide) (by decide) ?_
  refine xG_putq d_RF_init_26 xf_RF_16 (Or.inr ⟨rfl, rfl⟩) rfl (by simp only [List.append_assoc]; exact sh_0 hT) ?_
  refine xG_aload_n d_RF_init_29 rfl rfl rfl ?_
  refine xG_bipush (v := 32) d_RF_init_30 rfl ?_
  refine xG_newi' (s := a + 4) (N := 32) (by simp [hT]) d_RF_init_32 (by decide) (by decide) (by decide) (by decide) (by decide) ?_
  refine xG_putq d_RF_init_34 xf_RF_19 (Or.inr ⟨rfl, rfl⟩) rfl (by simp only [List.append_assoc]; exact sh_0 hT) ?_
  refine xG_aload_n d_RF_init_37 rfl rfl rfl ?_
  refine xG_bipush (v := 40) d_RF_init_38 rfl ?_
  refine xG_newi' (s := a + 5) (N := 40) (by simp [hT]) d_RF_init_40 (by decide) (by decide) (by decide) (by decide) (by decide) ?_
  refine xG_putq d_RF_init_42 xf_RF_22 (Or.inr ⟨rfl, rfl⟩) rfl (by simp only [List.append_assoc]; exact sh_0 hT) ?_
  refine xG_aload_n d_RF_init_45 rfl rfl rfl ?_
  refine xG_iconst (v := 3) d_RF_init_46 rfl ?_
  refine xG_newi' (s := a + 6) (N := 3) (by simp [hT]) d_RF_init_47 (by decide) (by decide) (by decide) (by decide) (by decide) ?_
  refine xG_putq d_RF_init_49 xf_RF_25 (Or.inr ⟨rfl, rfl⟩) rfl (by simp only [List.append_assoc]; exact sh_0 hT) ?_
  refine xG_aload_n d_RF_init_52 rfl rfl rfl ?_
  refine xG_iconst (v := 3) d_RF_init_53 rfl ?_
  refine xG_newi' (s := a + 7) (N := 3) (by simp [hT]) d_RF_init_54 (by decide) (by decide) (by decide) (by decide) (by decide) ?_
  refine xG_putq d_RF_init_56 xf_RF_28 (Or.inr ⟨rfl, rfl⟩) rfl (by simp only [List.append_assoc]; exact sh_0 hT) ?_
  refine xG_aload_n d_RF_init_59 rfl rfl rfl ?_
  refine xG_bipush (v := 65) d_RF_init_60 rfl ?_
  refine xG_newi' (s := a + 8) (N := 65) (by simp [hT]) d_RF_init_62 (by decide) (by decide) (by decide) (by decide) (by decide) ?_
  refine xG_putq d_RF_init_64 xf_RF_31 (Or.inr ⟨rfl, rfl⟩) rfl (by simp only [List.append_assoc]; exact sh_0 hT) ?_
  refine xG_aload_n d_RF_init_67 rfl rfl rfl ?_
  refine xG_sipush (v := 195) d_RF_init_68 rfl ?_
  refine xG_newi' (s := a + 9) (N := 195) (by simp [hT]) d_RF_init_71 (by decide) (by decide) (by decide) (by decide) (by decide) ?_
  refine xG_putq d_RF_init_73 xf_RF_34 (Or.inr ⟨rfl, rfl⟩) rfl (by simp only [List.append_assoc]; exact sh_0 hT) ?_
  refine xG_aload_n d_RF_init_76 rfl rfl rfl ?_
  refine xG_sipush (v := 1170) d_RF_init_77 rfl ?_
  refine xG_newi' (s := a + 10) (N := 1170) (by simp [hT]) d_RF_init_80 (by decide) (by decide) (by decide) (by decide) (by decide) ?_
  refine xG_putq d_RF_init_82 xf_RF_37 (Or.inr ⟨rfl, rfl⟩) rfl (by simp only [List.append_assoc]; exact sh_0 hT) ?_
  refine xG_aload_n d_RF_init_85 rfl rfl rfl ?_
  refine xG_sipush (v := 195) d_RF_init_86 rfl ?_
  refine xG_newi' (s := a + 11) (N := 195) (by simp [hT]) d_RF_init_89 (by decide) (by decide) (by decide) (by decide) (by decide) ?_
  refine xG_putq d_RF_init_91 xf_RF_40 (Or.inr ⟨rfl, rfl⟩) rfl (by simp only [List.append_assoc]; exact sh_0 hT) ?_
  refine xG_aload_n d_RF_init_94 rfl rfl rfl ?_
  refine xG_sipush (v := 1170) d_RF_init_95 rfl ?_
  refine xG_newi' (s := a + 12) (N := 1170) (by simp [hT]) d_RF_init_98 (by decide) (by decide) (by decide) (by decide) (by decide) ?_
  refine xG_putq d_RF_init_100 xf_RF_43 (Or.inr ⟨rfl, rfl⟩) rfl (by simp only [List.append_assoc]; exact sh_0 hT) ?_
  refine xG_aload_n d_RF_init_103 rfl rfl rfl ?_
  refine xG_bipush (v := 13) d_RF_init_104 rfl ?_
  refine xG_newi' (s := a + 13) (N := 13) (by simp [hT]) d_RF_init_106 (by decide) (by decide) (by decide) (by decide) (by decide) ?_
  refine xG_putq d_RF_init_108 xf_RF_46 (Or.inr ⟨rfl, rfl⟩) rfl (by simp only [List.append_assoc]; exact sh_0 hT) ?_
  refine xG_aload_n d_RF_init_111 rfl rfl rfl ?_
  refine xG_bipush (v := 13) d_RF_init_112 rfl ?_
  refine xG_newi' (s := a + 14) (N := 13) (by simp [hT]) d_RF_init_114 (by decide) (by decide) (by decide) (by decide) (by decide) ?_
  refine xG_putq d_RF_init_116 xf_RF_49 (Or.inr ⟨rfl, rfl⟩) rfl (by simp only [List.append_assoc]; exact sh_0 hT) ?_
  refine xG_aload_n d_RF_init_119 rfl rfl rfl ?_
  refine xG_bipush (v := 13) d_RF_init_120 rfl ?_
  refine xG_newi' (s := a + 15) (N := 13) (by simp [hT]) d_RF_init_122 (by decide) (by decide) (by decide) (by decide) (by decide) ?_
  refine xG_putq d_RF_init_124 xf_RF_52 (Or.inr ⟨rfl, rfl⟩) rfl (by simp only [List.append_assoc]; exact sh_0 hT) ?_
  refine xG_aload_n d_RF_init_127 rfl rfl rfl ?_
  refine xG_bipush (v := 78) d_RF_init_128 rfl ?_
  refine xG_newi' (s := a + 16) (N := 78) (by simp [hT]) d_RF_init_130 (by decide) (by decide) (by decide) (by decide) (by decide) ?_
  refine xG_putq d_RF_init_132 xf_RF_55 (Or.inr ⟨rfl, rfl⟩) rfl (by simp only [List.append_assoc]; exact sh_0 hT) ?_
  refine xG_aload_n d_RF_init_135 rfl rfl rfl ?_
  refine xG_iconst (v := (-1)) d_RF_init_136 rfl ?_
  refine xG_puti d_RF_init_137 xf_RF_58 (Or.inl rfl) rfl (by simp only [List.append_assoc]; exact sh_0 hT) rfl rfl ?_
  refine xG_aload_n d_RF_init_140 rfl rfl rfl ?_
  refine xG_bipush (v := 8) d_RF_init_141 rfl ?_
  refine xG_newi' (s := a + 17) (N := 8) (by simp [hT]) d_RF_init_143 (by decide) (by decide) (by decide) (by decide) (by decide) ?_
  refine xG_putq d_RF_init_145 xf_RF_62 (Or.inr ⟨rfl, rfl⟩) rfl (by simp only [List.append_assoc]; exact sh_0 hT) ?_
  refine xG_aload_n d_RF_init_148 rfl rfl rfl ?_
  refine xG_bipush (v := 8) d_RF_init_149 rfl ?_
  refine xG_newi' (s := a + 18) (N := 8) (by simp [hT]) d_RF_init_151 (by decide) (by decide) (by decide) (by decide) (by decide) ?_
  refine xG_putq d_RF_init_153 xf_RF_65 (Or.inr ⟨rfl, rfl⟩) rfl (by simp only [List.append_assoc]; exact sh_0 hT) ?_
  refine xG_aload_n d_RF_init_156 rfl rfl rfl ?_
  refine xG_bipush (v := 8) d_RF_init_157 rfl ?_
  refine xG_newi' (s := a + 19) (N := 8) (by simp [hT]) d_RF_init_159 (by decide) (by decide) (by decide) (by decide) (by decide) ?_
  refine xG_putq d_RF_init_161 xf_RF_68 (Or.inr ⟨rfl, rfl⟩) rfl (by simp only [List.append_assoc]; exact sh_0 hT) ?_
  refine xG_aload_n d_RF_init_164 rfl rfl rfl ?_
  refine xG_bipush (v := 8) d_RF_init_165 rfl ?_
  refine xG_newi' (s := a + 20) (N := 8) (by simp [hT]) d_RF_init_167 (by decide) (by decide) (by decide) (by decide) (by decide) ?_
  refine xG_putq d_RF_init_169 xf_RF_71 (Or.inr ⟨rfl, rfl⟩) rfl (by simp only [List.append_assoc]; exact sh_0 hT) ?_
  refine xG_aload_n d_RF_init_172 rfl rfl rfl ?_
  refine xG_sipush (v := 2048) d_RF_init_173 rfl ?_
  refine xG_newi' (s := a + 21) (N := 2048) (by simp [hT]) d_RF_init_176 (by decide) (by decide) (by decide) (by decide) (by decide) ?_
  refine xG_putq d_RF_init_178 xf_RF_74 (Or.inr ⟨rfl, rfl⟩) rfl (by simp only [List.append_assoc]; exact sh_0 hT) ?_
  refine xG_aload_n d_RF_init_181 rfl rfl rfl ?_
  refine xG_sipush (v := 256) d_RF_init_182 rfl ?_
  refine xG_newi' (s := a + 22) (N := 256) (by simp [hT]) d_RF_init_185 (by decide) (by decide) (by decide) (by decide) (by decide) ?_
  refine xG_putq d_RF_init_187 xf_RF_77 (Or.inr ⟨rfl, rfl⟩) rfl (by simp only [List.append_assoc]; exact sh_0 hT) ?_
  refine xG_aload_n d_RF_init_190 rfl rfl rfl ?_
  refine xG_iconst (v := (-1)) d_RF_init_191 rfl ?_
  refine xG_puti d_RF_init_192 xf_RF_80 (Or.inl rfl) rfl (by simp only [List.append_assoc]; exact sh_0 hT) rfl rfl ?_
  refine xG_return d_RF_init_195 rfl ⟨rfl, by simp [shRF], fun c k hc => ?_, ?_, ?_, ?_, ?_, ?_, ?_, ?_, ?_, ?_, ?_, ?_, ?_, ?_, ?_, ?_, ?_, ?_, ?_, ?_, ?_, ?_, ?_, ?_, ?_, ?_⟩
  · have h0 : c ≠ a + 0 := by omega
    have h1 : c ≠ a + 1 := by omega
    have h2 : c ≠ a + 2 := by omega
    have h3 : c ≠ a + 3 := by omega
    have h4 : c ≠ a + 4 := by omega
    have h5 : c ≠ a + 5 := by omega
    have h6 : c ≠ a + 6 := by omega
    have h7 : c ≠ a + 7 := by omega
    have h8 : c ≠ a + 8 := by omega
    have h9 : c ≠ a + 9 := by omega
    have h10 : c ≠ a + 10 := by omega
    have h11 : c ≠ a + 11 := by omega
    have h12 : c ≠ a + 12 := by omega
    have h13 : c ≠ a + 13 := by omega
    have h14 : c ≠ a + 14 := by omega
    have h15 : c ≠ a + 15 := by omega
    have h16 : c ≠ a + 16 := by omega
    have h17 : c ≠ a + 17 := by omega
    have h18 : c ≠ a + 18 := by omega
    have h19 : c ≠ a + 19 := by omega
    have h20 : c ≠ a + 20 := by omega
    have h21 : c ≠ a + 21 := by omega
    have h22 : c ≠ a + 22 := by omega
    rw [Nat.add_zero] at h0
    constructor <;> simp [xu, xz, h0, h1, h2, h3, h4, h5, h6, h7, h8, h9, h10, h11, h12, h13, h14, h15, h16, h17, h18, h19, h20, h21, h22]
  · simp [xu, xz]
  · simp [xu, xz]
  · simp [xu, xz]
  · simp [xu, xz]
  · simp [xu, xz]
  · simp [xu, xz]
  · simp [xu, xz]
  · simp [xu, xz]
  · simp [xu, xz]
  · simp [xu, xz]
  · simp [xu, xz]
  · simp [xu, xz]
  · simp [xu, xz]
  · simp [xu, xz]
  · simp [xu, xz]
  · simp [xu, xz]
  · simp [xu, xz]
  · simp [xu, xz]
  · simp [xu, xz]
  · simp [xu, xz]
  · simp [xu, xz]
  · simp [xu, xz]
  · simp [xu, xz]
  · simp [xu, xz]
  · intro k h1 h2
    simp [xu, xz, h1, h2]
end XNC

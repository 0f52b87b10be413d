/-! the law's loop -/
theorem xRl.keep {I I' : xIt} {S : Ss} (h : xRl I S) (hI : ∀ a j, 250 ≤ a → I' a j = I a j) : xRl I' S := by
  obtain ⟨hT, h37, h46, h47, h0, h1, hM, hO⟩ := h
  exact ⟨hT.keep' (hI _ _ (by omega)) (fun a j h1 h2 => hI a j (by omega)), (hI _ _ (by omega)).trans h37, (hI _ _ (by omega)).trans h46, (hI _ _ (by omega)).trans h47, (hI _ _ (by omega)).trans h0, (hI _ _ (by omega)).trans h1, fun j c hj => (hI _ _ (by omega)).trans (hM j c hj), (hI _ _ (by omega)).trans hO.1, hO.2.1, fun i b hi => (hI _ _ (by omega)).trans (hO.2.2 i b hi)⟩
theorem xCla.keep {I I' : xIt} {J : xJt} {P : xPt} {S : Ss} (h : xCla I J P S) (hI : ∀ a j, a < 250 → I' a j = I a j) : xCla I' J P S := by
  obtain ⟨hL, ⟨o, hT, hb⟩, h03, h04, h01, h00, hM, hO⟩ := h
  exact ⟨hL, ⟨o, hT.keep (fun a j h1 h2 => hI a j (by omega)) (fun _ _ _ _ => rfl) (fun _ _ _ _ => rfl), hb⟩, (hI _ _ (by omega)).trans h03, (hI _ _ (by omega)).trans h04, (hI _ _ (by omega)).trans h01, (hI _ _ (by omega)).trans h00, fun j c hj => (hI _ _ (by omega)).trans (hM j c hj), (hI _ _ (by omega)).trans hO.1, hO.2.1, fun i b hi => (hI _ _ (by omega)).trans (hO.2.2 i b hi)⟩
theorem lcmp_rfl {z : Int64} : lg_cmp z z = 0 := by unfold lg_cmp; simp
theorem nI_sub5 {L i : Nat} (hL : L ≤ 2560) (hi : i < 2 ^ 30) (h : ¬ Int32.ofNat L - 5 < nI i) : i + 5 ≤ L := by
  by_cases h5 : 5 ≤ L
  · have e : Int32.ofNat L - 5 = nI (L - 5) := pk_sub (a := L) (b := 5) (by omega)
    rw [e] at h
    have : ¬ L - 5 < i := fun hlt => h ((nI_ltI (by omega) (by omega)).mpr hlt)
    omega
  · exfalso
    have key : ∀ L, L < 5 → Int32.ofNat L - 5 < 0 := by decide
    exact h (Int32.lt_of_lt_of_le (key L (by omega)) (nI_pos' (by omega)))
section XLW
variable {l : Launch} {V : xV} {Q : String × xFin}
set_option maxRecDepth 20000 in
theorem law_step {I : xIt} {J : xJt} {P : xPt} {S : Ss} {i : Nat} (hV : V.2.2.2.2.1 ≤ 2560) (hi : i < 2 ^ 30) (hend : ∀ (v : Int32) (I : xIt) (J : xJt) (P : xPt), G_LW_law l V Q 404 [(3, xi v), (2, xq (some 250)), (1, xq (some 0)), (0, xt 3)] [] I J P)
    (next : ∀ (S : Ss) (I : xIt) (J : xJt) (P : xPt), i + 5 ≤ V.2.2.2.2.1 → xCla I J P S → xRl I S → sok S → G_LW_law l V Q 18 [(3, xi (nI (i + 5))), (2, xq (some 250)), (1, xq (some 0)), (0, xt 3)] [] I J P)
    (hC : xCla I J P S) (hR : xRl I S) (hS : sok S) : G_LW_law l V Q 18 [(3, xi (nI i)), (2, xq (some 250)), (1, xq (some 0)), (0, xt 3)] [] I J P := by
  have hL := hC.1
  refine b_LW_law_18 hL ⟨fun _ => hend _ I J P, fun z => ?_⟩
  have hin := nI_sub5 hV hi z
  have next398 : ∀ (S : Ss) (I : xIt) (J : xJt) (P : xPt), xCla I J P S → xRl I S → sok S → G_LW_law l V Q 398 [(3, xi (nI i)), (2, xq (some 250)), (1, xq (some 0)), (0, xt 3)] [] I J P := by
    intro S I J P hC hR hS
    refine b_LW_law_398 hC.1 ?_
    rw [show nI i + 5 = nI (i + 5) from nI_add i 5]
    exact next S I J P hin hC hR hS
  have hi1 : vp_in (nI i + 1) V.2.2.2.2.1 := pk_in (i + 1) _ (by omega) (nI_add i 1)
  have hi2 : vp_in (nI i + 2) V.2.2.2.2.1 := pk_in (i + 2) _ (by omega) (nI_add i 2)
  have hi3 : vp_in (nI i + 3) V.2.2.2.2.1 := pk_in (i + 3) _ (by omega) (nI_add i 3)
  have hi4 : vp_in (nI i + 4) V.2.2.2.2.1 := pk_in (i + 4) _ (by omega) (nI_add i 4)
  have p100 : G_LW_law l V Q 100 [(3, xi (nI i)), (2, xq (some 250)), (1, xq (some 0)), (0, xt 3)] [] I J P := by
    refine b_LW_law_100 hL ?_
    obtain ⟨x, hx, hX⟩ := wb_of ((((V.2.2.2.2.2 (nI i + 1).toNatClampNeg).toInt64) <<< ((32 : Int32).toInt64 &&& 63)) ||| (((V.2.2.2.2.2 (nI i + 2).toNatClampNeg).toInt64) &&& 4294967295))
    rw [hX]
    generalize V.2.2.2.2.2 (nI i + 3).toNatClampNeg = n
    refine ⟨hi1, hi2, hi3, _, c_DS_feed hx hC hS, ?_⟩
    rintro z1 I1 J1 P1 ⟨hf1, hn1, hk1⟩
    have hR1 := hR.keep hf1
    have hL1 : xL P1 := by
      rcases nI_io (n := 9) (by omega) n with ⟨k, hk, rfl⟩ | hn
      · by_cases h1 : 1 ≤ k
        · exact (hk1 k h1 (by omega) rfl).2.1
        · exact (hn1 (Or.inl (by rw [show k = 0 by omega]; decide))).2.1
      · refine (hn1 ?_).2.1
        rcases hn with hn | hn
        · exact Or.inl (Int32.lt_of_lt_of_le hn (by decide))
        · exact Or.inr (fun h8 => absurd (Int32.le_trans hn h8) (by decide))
    refine ⟨hi1, hi2, hi3, _, c_RF_feed (S := S) hL1 hR1 hS, ?_⟩
    rintro z2 I2 _ _ ⟨rfl, rfl, hf2, hn2, hk2⟩
    have out : (n < 1 ∨ ¬ n ≤ 8) → (z1 = z2 → G_LW_law l V Q 398 [(3, xi (nI i)), (2, xq (some 250)), (1, xq (some 0)), (0, xt 3)] [] I2 J1 P1) ∧ (¬ z1 = z2 → False) := by
      intro hn
      have a1 := hn1 hn
      have a2 := hn2 hn
      exact ⟨fun _ => next398 S I2 J1 P1 (a1.2.keep hf2) a2.2 hS, fun z => z (a1.1.trans a2.1.symm)⟩
    rcases nI_io (n := 9) (by omega) n with ⟨k, hk, rfl⟩ | hn
    · by_cases h1 : 1 ≤ k
      · have a1 := hk1 k h1 (by omega) rfl
        have a2 := hk2 k h1 (by omega) rfl
        exact ⟨fun _ => next398 _ I2 J1 P1 (a1.2.keep hf2) a2.2 (fds_ok _ _ _ (lby_256 x k) hS), fun z => z (a1.1.trans a2.1.symm)⟩
      · exact out (Or.inl (by rw [show k = 0 by omega]; decide))
    · rcases hn with hn | hn
      · exact out (Or.inl (Int32.lt_of_lt_of_le hn (by decide)))
      · exact out (Or.inr (fun h8 => absurd (Int32.le_trans hn h8) (by decide)))
  have p163 : G_LW_law l V Q 163 [(3, xi (nI i)), (2, xq (some 250)), (1, xq (some 0)), (0, xt 3)] [] I J P := by
    refine b_LW_law_163 hL ⟨_, c_DS_connect hC, ?_⟩
    rintro I1 J1 P1 ⟨hf1, hC1⟩
    refine ⟨_, c_RF_connect hC1.1 (hR.keep hf1), ?_⟩
    rintro I2 _ _ ⟨rfl, rfl, hf2, hR2⟩
    exact next398 _ I2 J1 P1 (hC1.keep hf2) hR2 (connect_ok hS)
  have p174 : G_LW_law l V Q 174 [(3, xi (nI i)), (2, xq (some 250)), (1, xq (some 0)), (0, xt 3)] [] I J P := by
    refine b_LW_law_174 hL ⟨_, c_DS_open hC, ?_⟩
    rintro z1 _ _ _ ⟨rfl, rfl, rfl, rfl⟩
    refine ⟨_, c_RF_open hL hR, ?_⟩
    rintro z2 _ _ _ ⟨rfl, rfl, rfl, rfl⟩
    exact ⟨fun _ => next398 S I J P hC hR hS, fun z => absurd rfl z⟩
  have p187 : G_LW_law l V Q 187 [(3, xi (nI i)), (2, xq (some 250)), (1, xq (some 0)), (0, xt 3)] [] I J P := by
    refine b_LW_law_187 hL ⟨_, c_DS_kept hC, ?_⟩
    rintro z1 _ _ _ ⟨rfl, rfl, rfl, rfl⟩
    refine ⟨_, c_RF_kept hL hR, ?_⟩
    rintro z2 _ _ _ ⟨rfl, rfl, rfl, rfl⟩
    exact ⟨fun _ => next398 S I J P hC hR hS, fun z => absurd rfl z⟩
  have p200 : G_LW_law l V Q 200 [(3, xi (nI i)), (2, xq (some 250)), (1, xq (some 0)), (0, xt 3)] [] I J P := by
    refine b_LW_law_200 hL ⟨_, c_DS_bound hC hS, ?_⟩
    rintro z1 _ _ _ ⟨rfl, rfl, rfl, rfl⟩
    refine ⟨_, c_RF_bound hL hR, ?_⟩
    rintro z2 _ _ _ ⟨rfl, rfl, rfl, rfl⟩
    exact ⟨fun _ => next398 S I J P hC hR hS, fun z => absurd rfl z⟩
  have p213 : G_LW_law l V Q 213 [(3, xi (nI i)), (2, xq (some 250)), (1, xq (some 0)), (0, xt 3)] [] I J P := by
    refine b_LW_law_213 hL ⟨_, c_DS_code hC, ?_⟩
    rintro z1 _ _ _ ⟨rfl, rfl, rfl, rfl⟩
    refine ⟨_, c_RF_code hL hR, ?_⟩
    rintro z2 _ _ _ ⟨rfl, rfl, rfl, rfl⟩
    exact ⟨fun _ => next398 S I J P hC hR hS, fun z => absurd rfl z⟩
  have p226 : G_LW_law l V Q 226 [(3, xi (nI i)), (2, xq (some 250)), (1, xq (some 0)), (0, xt 3)] [] I J P := by
    refine b_LW_law_226 hL ⟨_, c_DS_found hC, ?_⟩
    rintro z1 _ _ _ ⟨rfl, rfl, rfl, rfl⟩
    refine ⟨_, c_RF_found hL hR, ?_⟩
    rintro z2 _ _ _ ⟨rfl, rfl, rfl, rfl⟩
    exact ⟨fun _ => next398 S I J P hC hR hS, fun z => absurd rfl z⟩
  have p239 : G_LW_law l V Q 239 [(3, xi (nI i)), (2, xq (some 250)), (1, xq (some 0)), (0, xt 3)] [] I J P := by
    refine b_LW_law_239 hL ⟨_, c_DS_length hC, ?_⟩
    rintro z1 _ _ _ ⟨rfl, rfl, rfl, rfl⟩
    refine ⟨_, c_RF_length hL hR, ?_⟩
    rintro z2 _ _ _ ⟨rfl, rfl, rfl, rfl⟩
    exact ⟨fun _ => next398 S I J P hC hR hS, fun z => absurd rfl z⟩
  have p252 : G_LW_law l V Q 252 [(3, xi (nI i)), (2, xq (some 250)), (1, xq (some 0)), (0, xt 3)] [] I J P := by
    refine b_LW_law_252 hL ⟨hi1, _, c_DS_output hC, ?_⟩
    rintro z1 _ _ _ ⟨rfl, rfl, rfl, rfl⟩
    refine ⟨hi1, _, c_RF_output hL hR, ?_⟩
    rintro z2 _ _ _ ⟨rfl, rfl, rfl, rfl⟩
    exact ⟨fun _ => next398 S I J P hC hR hS, fun z => absurd lcmp_rfl z⟩
  have p276 : G_LW_law l V Q 276 [(3, xi (nI i)), (2, xq (some 250)), (1, xq (some 0)), (0, xt 3)] [] I J P := by
    refine b_LW_law_276 hL ⟨_, c_DS_entries hC, ?_⟩
    rintro z1 _ _ _ ⟨rfl, rfl, rfl, rfl⟩
    refine ⟨_, c_RF_entries hL hR, ?_⟩
    rintro z2 _ _ _ ⟨rfl, rfl, rfl, rfl⟩
    exact ⟨fun _ => next398 S I J P hC hR hS, fun z => absurd rfl z⟩
  have p289 : G_LW_law l V Q 289 [(3, xi (nI i)), (2, xq (some 250)), (1, xq (some 0)), (0, xt 3)] [] I J P := by
    refine b_LW_law_289 hL ⟨hi1, _, c_DS_parent hC hS, ?_⟩
    rintro z1 _ _ _ ⟨rfl, rfl, rfl, rfl⟩
    refine ⟨hi1, _, c_RF_parent hL hR, ?_⟩
    rintro z2 _ _ _ ⟨rfl, rfl, rfl, rfl⟩
    exact ⟨fun _ => next398 S I J P hC hR hS, fun z => absurd rfl z⟩
  have p312 : G_LW_law l V Q 312 [(3, xi (nI i)), (2, xq (some 250)), (1, xq (some 0)), (0, xt 3)] [] I J P := by
    refine b_LW_law_312 hL ⟨hi1, hi2, _, c_DS_values hC, ?_⟩
    rintro z1 _ _ _ ⟨rfl, rfl, rfl, rfl⟩
    refine ⟨hi1, hi2, _, c_RF_values hL hR, ?_⟩
    rintro z2 _ _ _ ⟨rfl, rfl, rfl, rfl⟩
    exact ⟨fun _ => next398 S I J P hC hR hS, fun z => absurd rfl z⟩
  have p345 : G_LW_law l V Q 345 [(3, xi (nI i)), (2, xq (some 250)), (1, xq (some 0)), (0, xt 3)] [] I J P := by
    refine b_LW_law_345 hL ⟨hi1, hi2, hi3, hi4, _, c_DS_value hC hS, ?_⟩
    rintro z1 _ _ _ ⟨rfl, rfl, rfl, rfl⟩
    refine ⟨hi1, hi2, hi3, hi4, _, c_RF_value hL hR, ?_⟩
    rintro z2 _ _ _ ⟨rfl, rfl, rfl, rfl⟩
    exact ⟨fun _ => next398 S I J P hC hR hS, fun z => absurd rfl z⟩
  exact ⟨pk_in i _ (by omega), fun _ => p100, fun _ => p163, fun _ => p174, fun _ => p187, fun _ => p200, fun _ => p213, fun _ => p226, fun _ => p239, fun _ => p252, fun _ => p276, fun _ => p289, fun _ => p312, fun _ => p345, fun _ _ _ _ _ _ _ _ _ _ _ _ _ => next398 S I J P hC hR hS⟩
theorem law_loop (hV : V.2.2.2.2.1 ≤ 2560) (hend : ∀ (v : Int32) (I : xIt) (J : xJt) (P : xPt), G_LW_law l V Q 404 [(3, xi v), (2, xq (some 250)), (1, xq (some 0)), (0, xt 3)] [] I J P) : ∀ (g i : Nat) (S : Ss) (I : xIt) (J : xJt) (P : xPt), V.2.2.2.2.1 ≤ i + g → i < 2 ^ 20 → xCla I J P S → xRl I S → sok S → G_LW_law l V Q 18 [(3, xi (nI i)), (2, xq (some 250)), (1, xq (some 0)), (0, xt 3)] [] I J P := by
  intro g
  induction g with
  | zero =>
    intro i S I J P hg hi hC hR hS
    exact law_step hV (by omega) hend (fun S I J P h => by omega) hC hR hS
  | succ g ih =>
    intro i S I J P hg hi hC hR hS
    exact law_step hV (by omega) hend (fun S I J P h hC hR hS => ih (i + 5) S I J P (by omega) (by omega) hC hR hS) hC hR hS
end XLW

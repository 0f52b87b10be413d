/-! the reference takes up to eight bytes -/
theorem sr_bb (x k : Nat) (hk : k ≤ 7) : (BitVec.sshiftRight (BitVec.ofNat 64 x) (8 * k)) &&& 255#64 = BitVec.ofNat 64 (x / 2 ^ (8 * k) % 256) := by
  apply BitVec.eq_of_getLsbD_eq
  intro i hi
  rw [BitVec.getLsbD_and, BitVec.getLsbD_sshiftRight]
  have e255 : (255#64).getLsbD i = decide (i < 8) := by
    have : ∀ i, i < 64 → (255#64).getLsbD i = decide (i < 8) := by decide
    exact this i hi
  rw [e255, BitVec.getLsbD_ofNat, BitVec.getLsbD_ofNat, show (256 : Nat) = 2 ^ 8 from rfl, Nat.testBit_mod_two_pow, Nat.testBit_div_two_pow]
  by_cases h8 : i < 8
  · have h1 : 8 * k + i < 64 := by omega
    have h2 : ¬ 64 ≤ i := by omega
    simp only [h8, hi, h1, h2, if_true, decide_true, decide_false, Bool.not_false, Bool.true_and, Bool.and_true]
    rw [Nat.add_comm]
  · simp [h8]
theorem sr_byte (x k : Nat) (hk : k ≤ 7) : ((lN x >>> ((8 * nI k).toInt64 &&& 63)) &&& 255).toInt32 = nI (x / 2 ^ (8 * k) % 256) := by
  have h : lN x >>> ((8 * nI k).toInt64 &&& 63) &&& 255 = lN (x / 2 ^ (8 * k) % 256) := by
    rw [nI_8m, wb_c (8 * k) (by omega)]
    apply wb_inj
    rw [Int64.toBitVec_and, Int64.toBitVec_shiftRight, wb_tb, wb_tb, wb_tb, wb_sm (8 * k) (by omega)]
    rw [BitVec.sshiftRight_eq', BitVec.toNat_ofNat, Nat.mod_eq_of_lt (by omega)]
    exact sr_bb x k hk
  rw [h, lN_i]
theorem fds_ok : ∀ (bs : List Nat) (S : Ss) (c : Nat), (∀ b, b ∈ bs → b < 256) → sok S → sok (fds bs S c).1 := by
  intro bs
  induction bs with
  | nil => intro S c _ h; exact h
  | cons b r ih =>
    intro S c hb h
    rw [fds]
    exact ih _ _ (fun q hq => hb q (List.mem_cons_of_mem _ hq)) (nxt_ok h (hb b List.mem_cons_self))
theorem lby_256 (x n : Nat) : ∀ b, b ∈ lby x n → b < 256 := by
  intro b hb
  unfold lby at hb
  obtain ⟨k, -, rfl⟩ := List.mem_map.mp hb
  exact Nat.mod_lt _ (by decide)
section XRH
variable {l : Launch} {V : xV} {I : xIt} {J : xJt} {P : xPt}
def Qrd (x : Nat) (n : Int32) (S : Ss) (I : xIt) (J : xJt) (P : xPt) : Int32 → xIt → xJt → xPt → Prop := fun r I' J' P' => J = J' ∧ P = P' ∧ (∀ a j, a < 250 → I' a j = I a j) ∧ ((n < 1 ∨ ¬ n ≤ 8) → r = -1 ∧ xRl I' S) ∧ ∀ k : Nat, 1 ≤ k → k ≤ 8 → n = nI k → r = nI (fds (lby x k) S 0).2 ∧ xRl I' (fds (lby x k) S 0).1
set_option maxRecDepth 20000 in
theorem c_RF_feed {x : Nat} {n : Int32} {S : Ss} (hL : xL P) (hR : xRl I S) (hS : sok S) : xMet l V y_RF_feed 9 0 0 [xq (some 250), xj (lN x), xi n] xS0 I J P (xPi (Qrd x n S I J P)) := by
  have loop : ∀ (k : Nat) (v4 v5 : Int32) (c k0 : Nat) (S1 : Ss) (I1 : xIt), k ≤ k0 → 1 ≤ k0 → k0 ≤ 8 → n = nI k0 → v4 = nI c → (k = 0 → v5 < 0) → (0 < k → v5 = nI (k - 1)) → (∀ a j, a < 250 → I1 a j = I a j) → xRl I1 S1 → sok S1 → fds (lby x k0) S 0 = fds (lby x k) S1 c → G_RF_feed l V (Qrd x n S I J P) 21 [(0, xq (some 250)), (1, xj (lN x)), (3, xi n), (4, xi v4), (5, xi v5)] [] I1 J P := by
    intro k
    induction k with
    | zero =>
      intro v4 v5 c k0 S1 I1 hk hk1 hk8 hn hv4 h0 hp hfr hC1 hS1 hfd
      refine b_RF_feed_21 hL ⟨fun _ => ⟨rfl, rfl, hfr, fun h => ?_, fun q hq1 hq8 hqn => ?_⟩, fun z => absurd (h0 rfl) z⟩
      · exfalso
        rw [hn] at h
        rcases h with h | h
        · exact nI_nlt (b := 1) (a := k0) hk1 (by omega) h
        · exact h (nI_le (b := 8) hk8 (by omega))
      · have : q = k0 := (nI_eq (by omega) (by omega)).mp (hqn.symm.trans hn)
        subst this
        rw [hfd]
        exact ⟨hv4, hC1⟩
    | succ k ih =>
      intro v4 v5 c k0 S1 I1 hk hk1 hk8 hn hv4 h0 hp hfr hC1 hS1 hfd
      have hv5 := hp (by omega)
      subst hv5
      rw [show k + 1 - 1 = k by omega]
      have hbb : x / 2 ^ (8 * k) % 256 < 256 := Nat.mod_lt _ (by decide)
      have hv5n : (k = 0 → nI k + -1 < 0) ∧ (0 < k → nI k + -1 = nI (k - 1)) := by
        have key : ∀ k, k < 8 → (k = 0 → nI k + -1 < 0) ∧ (0 < k → nI k + -1 = nI (k - 1)) := by decide
        exact key k (by omega)
      refine b_RF_feed_21 hL ⟨fun z => absurd z (nI_pos (by omega)), fun _ => ?_⟩
      rw [sr_byte x k (by omega)]
      refine ⟨_, c_RF_comes (S := S1) hL hbb hC1 hS1, ?_⟩
      rintro z1 I2 _ _ ⟨rfl, rfl, hs, rfl, hR2⟩
      have hS2 := nxt_ok (S := S1) hS1 hbb
      rw [lby_succ, fds] at hfd
      have hfr2 : ∀ a j, a < 250 → I2 a j = I a j := fun a j h => (hs a j h).trans (hfr a j h)
      by_cases hd : (nxt S1 (x / 2 ^ (8 * k) % 256)).2 = true
      · rw [if_pos hd] at hfd ⊢
        refine ⟨fun z => absurd z (by decide), fun _ => ih _ _ (c + 1) k0 _ I2 (by omega) hk1 hk8 hn (by rw [hv4, nI_1]) hv5n.1 hv5n.2 hfr2 hR2 hS2 hfd⟩
      · rw [if_neg hd] at hfd ⊢
        refine ⟨fun _ => ih _ _ c k0 _ I2 (by omega) hk1 hk8 hn hv4 hv5n.1 hv5n.2 hfr2 hR2 hS2 hfd, fun z => absurd rfl z⟩
  refine e_RF_feed (b_RF_feed_0 hL ?_)
  refine ⟨fun z => ⟨rfl, rfl, fun _ _ _ => rfl, fun _ => ⟨rfl, hR⟩, fun k hk1 hk8 hk => ?_⟩, fun z => ⟨fun z2 => ?_, fun z2 => ⟨rfl, rfl, fun _ _ _ => rfl, fun _ => ⟨rfl, hR⟩, fun k hk1 hk8 hk => ?_⟩⟩⟩
  · exfalso; rw [hk] at z; exact nI_nlt (b := 1) (a := k) hk1 (by omega) z
  · obtain ⟨k0, hk0, hn⟩ := nI_of2 (x := n) (M := 8) (n := 8) (by decide) (fun h => z (Int32.lt_of_lt_of_le h (by decide : (0 : Int32) ≤ 1))) z2
    have hk1 : 1 ≤ k0 := Classical.byContradiction fun h => z (by rw [hn, show k0 = 0 by omega]; decide)
    refine loop k0 0 _ 0 k0 S I (Nat.le_refl _) hk1 hk0 hn rfl (fun h => by omega) (fun _ => ?_) (fun _ _ _ => rfl) hR hS rfl
    rw [hn]
    exact pk_sub (b := 1) (by omega)
  · exfalso; rw [hk] at z2; exact z2 (nI_le (b := 8) hk8 (by omega))
end XRH

/-! ===== feed, end ===== -/
def bX (v k : Int32) : Int32 := ((jush v k).toInt8.toInt32).toInt8.toInt32
theorem bX_255 {k : Nat} (hk : k ≤ 24) (v : Int32) : bX v (nI k) &&& 255 = jshr v (nI k) &&& 255 := by
  unfold bX; rw [bp_b, bp_b, shr_byte hk]
theorem add_step {Q : Ix → Lx → Prop} {v1 v2 : Int32} {I : Ix} {L : Lx} {n : Nat} (h2 : ¬ v2 < 0) (hn : n < 1700) (hI : I 1 1 = nI n) (h : wpX7_add_h3 Q v1 (v2 + (-8)) (pu (pu I 2 n (bX v1 v2)) 1 1 (nI (n + 1))) L) : wpX7_add_h3 Q v1 v2 I L := by
  refine wpX7_add_h3_fold ?_
  refine ⟨fun hc => absurd hc h2, fun _ => ⟨fun hc => ?_, fun _ => ?_⟩⟩
  · rw [hI] at hc
    exact absurd hc (nI_ge (b := 1700) hn (by decide))
  · rw [hI, nI_clamp (by omega)]
    refine ⟨vp_in_nI hn (by decide), ?_⟩
    intro I1 e1 I2 e2
    have h1 : I1 1 1 = nI n := by rw [e1, pu_eq]; simp [hI]
    rw [h1, ← nI_succ, e1] at e2
    rw [e2]
    exact h
theorem sp_add {v : Int32} {I : Ix} {L : Lx} {n : Nat} (hn : n + 4 ≤ 1700) (hI : I 1 1 = nI n) : wpX7_add v I L (fun I1 L1 => L1 = L ∧ I1 1 1 = nI (n + 4) ∧ (∀ j, j < n → I1 2 j = I 2 j) ∧ I1 2 n &&& 255 = jshr v (nI 24) &&& 255 ∧ I1 2 (n + 1) &&& 255 = jshr v (nI 16) &&& 255 ∧ I1 2 (n + 2) &&& 255 = jshr v (nI 8) &&& 255 ∧ I1 2 (n + 3) &&& 255 = jshr v (nI 0) &&& 255) := by
  unfold wpX7_add
  refine add_step (n := n) (by decide) (by omega) hI ?_
  rw [m8_24]
  refine add_step (n := n + 1) (by decide) (by omega) (by rw [pu_eq]; simp) ?_
  rw [m8_16]
  refine add_step (n := n + 2) (by decide) (by omega) (by rw [pu_eq]; simp) ?_
  rw [m8_8]
  refine add_step (n := n + 3) (by decide) (by omega) (by rw [pu_eq]; simp) ?_
  rw [m8_0]
  refine wpX7_add_h3_fold ⟨fun _ => ?_, fun hc => absurd (by decide) hc⟩
  have e24 := bX_255 (k := 24) (by decide) v
  rw [← n24] at e24
  refine ⟨rfl, by rw [pu_eq]; simp, fun j hj => ?_, ?_, ?_, ?_, ?_⟩
  · have h0 : j ≠ n ∧ j ≠ n + 1 ∧ j ≠ n + 2 ∧ j ≠ n + 3 := by omega
    simp [pu_eq, h0.1, h0.2.1, h0.2.2.1, h0.2.2.2]
  · simp only [pu_eq]; simp; rw [← n24]; exact e24
  · simp only [pu_eq]; simp; exact bX_255 (by decide) v
  · simp only [pu_eq]; simp; exact bX_255 (by decide) v
  · simp only [pu_eq]; simp; exact bX_255 (by decide) v
theorem four_step {Q : Ix → Lx → Prop} {v1 v2 : Int32} {I : Ix} {L : Lx} {n : Nat} (h2 : ¬ v2 < 0) (hn : n < 1700) (hI : I 120 1 = nI n) (h : wpX12_four_h3 Q v1 (v2 + (-8)) (pu (pu I 121 n (jshr v1 v2 &&& 255)) 120 1 (nI (n + 1))) L) : wpX12_four_h3 Q v1 v2 I L := by
  refine wpX12_four_h3_fold ?_
  refine ⟨fun hc => absurd hc h2, fun _ => ?_⟩
  rw [hI, nI_clamp (by omega)]
  refine ⟨vp_in_nI hn (by decide), ?_⟩
  intro I1 e1 I2 e2
  have h1 : I1 120 1 = nI n := by rw [e1, pu_eq]; simp [hI]
  rw [h1, ← nI_succ, e1] at e2
  rw [e2]
  exact h
theorem sp_four {v : Int32} {I : Ix} {L : Lx} {n : Nat} (hn : n + 4 ≤ 1700) (hI : I 120 1 = nI n) : wpX12_four v I L (fun I1 L1 => L1 = L ∧ I1 120 1 = nI (n + 4) ∧ (∀ j, j < n → I1 121 j = I 121 j) ∧ I1 121 n = jshr v (nI 24) &&& 255 ∧ I1 121 (n + 1) = jshr v (nI 16) &&& 255 ∧ I1 121 (n + 2) = jshr v (nI 8) &&& 255 ∧ I1 121 (n + 3) = jshr v (nI 0) &&& 255) := by
  unfold wpX12_four
  refine four_step (n := n) (by decide) (by omega) hI ?_
  rw [m8_24]
  refine four_step (n := n + 1) (by decide) (by omega) (by rw [pu_eq]; simp) ?_
  rw [m8_16]
  refine four_step (n := n + 2) (by decide) (by omega) (by rw [pu_eq]; simp) ?_
  rw [m8_8]
  refine four_step (n := n + 3) (by decide) (by omega) (by rw [pu_eq]; simp) ?_
  rw [m8_0]
  refine wpX12_four_h3_fold ⟨fun _ => ?_, fun hc => absurd (by decide) hc⟩
  refine ⟨rfl, by rw [pu_eq]; simp, fun j hj => ?_, ?_, ?_, ?_, ?_⟩
  · have h0 : j ≠ n ∧ j ≠ n + 1 ∧ j ≠ n + 2 ∧ j ≠ n + 3 := by omega
    simp [pu_eq, h0.1, h0.2.1, h0.2.2.1, h0.2.2.2]
  · simp only [pu_eq]; simp; rw [n24]
  · simp only [pu_eq]; simp
  · simp only [pu_eq]; simp
  · simp only [pu_eq]; simp
/-- the bytes of some numbers -/
def byt (vs : List Int32) (j : Nat) : Int32 := jshr (vs.getD (j / 4) 0) (nI (24 - 8 * (j % 4))) &&& 255

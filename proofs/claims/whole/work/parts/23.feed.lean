def pX (vs : List Int32) (n k : Nat) (I I1 : Ix) : Prop := I1 1 1 = nI (n + 4 * k) ∧ (∀ j, j < n → I1 2 j = I 2 j) ∧ ∀ j, j < 4 * k → I1 2 (n + j) &&& 255 = byt vs j
def pM (vs : List Int32) (n k : Nat) (I I1 : Ix) : Prop := I1 120 1 = nI (n + 4 * k) ∧ (∀ j, j < n → I1 121 j = I 121 j) ∧ ∀ j, j < 4 * k → I1 121 (n + j) = byt vs j
theorem byt_at (vs : List Int32) (k i : Nat) (hi : i < 4) : byt vs (4 * k + i) = jshr (vs.getD k 0) (nI (24 - 8 * i)) &&& 255 := by
  unfold byt
  rw [show (4 * k + i) / 4 = k by omega, show (4 * k + i) % 4 = i by omega]
theorem add_pX {vs : List Int32} {n k : Nat} {I I1 : Ix} {L : Lx} {v : Int32} (hv : vs.getD k 0 = v) (hn : n + 4 * k + 4 ≤ 1700) (h : pX vs n k I I1) : wpX7_add v I1 L (fun I2 L2 => L2 = L ∧ pX vs n (k + 1) I I2) := by
  obtain ⟨h1, h2, h3⟩ := h
  refine mnX7_add (fun I2 L2 _ _ hq => ?_) (sp_add (n := n + 4 * k) hn h1)
  obtain ⟨q0, q1, q2, q3, q4, q5, q6⟩ := hq
  refine ⟨q0, by rw [q1]; congr 1, fun j hj => (q2 j (by omega)).trans (h2 j hj), fun j hj => ?_⟩
  by_cases hj4 : j < 4 * k
  · rw [q2 (n + j) (by omega)]; exact h3 j hj4
  · obtain ⟨i, hi, rfl⟩ : ∃ i, i < 4 ∧ j = 4 * k + i := ⟨j - 4 * k, by omega, by omega⟩
    rw [byt_at vs k i hi, hv, ← Nat.add_assoc]
    have h4 : i = 0 ∨ i = 1 ∨ i = 2 ∨ i = 3 := by omega
    rcases h4 with rfl | rfl | rfl | rfl
    · exact q3
    · exact q4
    · exact q5
    · exact q6
theorem four_pM {vs : List Int32} {n k : Nat} {I I1 : Ix} {L : Lx} {v : Int32} (hv : vs.getD k 0 = v) (hn : n + 4 * k + 4 ≤ 1700) (h : pM vs n k I I1) : wpX12_four v I1 L (fun I2 L2 => L2 = L ∧ pM vs n (k + 1) I I2) := by
  obtain ⟨h1, h2, h3⟩ := h
  refine mnX12_four (fun I2 L2 _ _ hq => ?_) (sp_four (n := n + 4 * k) hn h1)
  obtain ⟨q0, q1, q2, q3, q4, q5, q6⟩ := hq
  refine ⟨q0, by rw [q1]; congr 1, fun j hj => (q2 j (by omega)).trans (h2 j hj), fun j hj => ?_⟩
  by_cases hj4 : j < 4 * k
  · rw [q2 (n + j) (by omega)]; exact h3 j hj4
  · obtain ⟨i, hi, rfl⟩ : ∃ i, i < 4 ∧ j = 4 * k + i := ⟨j - 4 * k, by omega, by omega⟩
    rw [byt_at vs k i hi, hv, ← Nat.add_assoc]
    have h4 : i = 0 ∨ i = 1 ∨ i = 2 ∨ i = 3 := by omega
    rcases h4 with rfl | rfl | rfl | rfl
    · exact q3
    · exact q4
    · exact q5
    · exact q6
theorem n20 (n : Nat) : nI n + 20 = nI (n + 20) := nI_add n 20
theorem sp_feedX {a1 a2 a3 a4 a5 : Int32} {I : Ix} {L : Lx} {n : Nat} (hn : n ≤ 1700) (hI : I 1 1 = nI n) : wpX11_feed a1 a2 a3 a4 a5 I L (fun r I1 L1 => L1 = L ∧ ((n + 20 ≤ 1700 ∧ r = nI (n + 20) ∧ pX [a1, a2, a3, a4, a5] n 5 I I1) ∨ (1700 < n + 20 ∧ r = -1 ∧ I1 = I))) := by
  unfold wpX11_feed
  rw [hI, n20]
  refine ⟨fun hc => ?_, fun hc => ⟨rfl, Or.inr ⟨?_, rfl, rfl⟩⟩⟩
  · have hc : n + 20 ≤ 1700 := (nI_leI (b := 1700) (by omega) (by decide)).mp hc
    refine mnX7_add (fun I1 L1 _ _ h1 => ?_) (add_pX (vs := [a1, a2, a3, a4, a5]) (n := n) (k := 0) (I := I) rfl (by omega) ⟨hI, fun _ _ => rfl, fun j hj => by omega⟩)
    obtain ⟨rfl, h1⟩ := h1
    refine mnX7_add (fun I2 L2 _ _ h2 => ?_) (add_pX (k := 1) rfl (by omega) h1)
    obtain ⟨rfl, h2⟩ := h2
    refine mnX7_add (fun I3 L3 _ _ h3 => ?_) (add_pX (k := 2) rfl (by omega) h2)
    obtain ⟨rfl, h3⟩ := h3
    refine mnX7_add (fun I4 L4 _ _ h4 => ?_) (add_pX (k := 3) rfl (by omega) h3)
    obtain ⟨rfl, h4⟩ := h4
    refine mnX7_add (fun I5 L5 _ _ h5 => ?_) (add_pX (k := 4) rfl (by omega) h4)
    obtain ⟨rfl, h5⟩ := h5
    exact ⟨rfl, Or.inl ⟨hc, h5.1, h5⟩⟩
  · exact Nat.lt_of_not_le fun h => hc ((nI_leI (b := 1700) (by omega) (by decide)).mpr h)
theorem sp_feedM {a1 a2 a3 a4 a5 : Int32} {I : Ix} {L : Lx} {n : Nat} (hn : n ≤ 1700) (hI : I 120 1 = nI n) : wpX12_feed a1 a2 a3 a4 a5 I L (fun r I1 L1 => L1 = L ∧ ((n + 20 ≤ 1700 ∧ r = nI (n + 20) ∧ pM [a1, a2, a3, a4, a5] n 5 I I1) ∨ (1700 < n + 20 ∧ r = -1 ∧ I1 = I))) := by
  unfold wpX12_feed
  rw [hI, n20]
  refine ⟨fun hc => ?_, fun hc => ⟨rfl, Or.inr ⟨?_, rfl, rfl⟩⟩⟩
  · have hc : n + 20 ≤ 1700 := (nI_leI (b := 1700) (by omega) (by decide)).mp hc
    refine mnX12_four (fun I1 L1 _ _ h1 => ?_) (four_pM (vs := [a1, a2, a3, a4, a5]) (n := n) (k := 0) (I := I) rfl (by omega) ⟨hI, fun _ _ => rfl, fun j hj => by omega⟩)
    obtain ⟨rfl, h1⟩ := h1
    refine mnX12_four (fun I2 L2 _ _ h2 => ?_) (four_pM (k := 1) rfl (by omega) h1)
    obtain ⟨rfl, h2⟩ := h2
    refine mnX12_four (fun I3 L3 _ _ h3 => ?_) (four_pM (k := 2) rfl (by omega) h2)
    obtain ⟨rfl, h3⟩ := h3
    refine mnX12_four (fun I4 L4 _ _ h4 => ?_) (four_pM (k := 3) rfl (by omega) h3)
    obtain ⟨rfl, h4⟩ := h4
    refine mnX12_four (fun I5 L5 _ _ h5 => ?_) (four_pM (k := 4) rfl (by omega) h4)
    obtain ⟨rfl, h5⟩ := h5
    exact ⟨rfl, Or.inl ⟨hc, h5.1, h5⟩⟩
  · exact Nat.lt_of_not_le fun h => hc ((nI_leI (b := 1700) (by omega) (by decide)).mpr h)
/-- the tape behind feed on both sides -/
theorem tape_feed {vs : List Int32} {n : Nat} {I I1 I2 : Ix} (hn : n + 20 ≤ 1700) (ht : ∀ j, j < n → I 2 j &&& 255 = I 121 j ∧ ∃ b : Nat, b < 256 ∧ I 121 j = nI b) (hX : pX vs n 5 I I1) (hM : pM vs n 5 I1 I2) (f1 : ∀ j, I1 121 j = I 121 j) (f2 : ∀ j, I2 2 j = I1 2 j) (f3 : I2 1 1 = I1 1 1) : iTape I2 := by
  refine ⟨n + 20, hn, by rw [f3]; exact hX.1, hM.1, fun j hj => ?_⟩
  by_cases h : j < n
  · rw [f2, hX.2.1 j h, hM.2.1 j h, f1]; exact ht j h
  · obtain ⟨i, rfl⟩ : ∃ i, j = n + i := ⟨j - n, by omega⟩
    rw [f2, hX.2.2 i (by omega), hM.2.2 i (by omega)]
    exact ⟨rfl, and255 _⟩
theorem sp_endX {a : Int32} {I : Ix} {L : Lx} {n : Nat} (hn : n ≤ 1700) (hI : I 1 1 = nI n) : wpX11_end a I L (fun r I1 L1 => L1 = L ∧ ((∃ m : Nat, m ≤ n ∧ a = nI m ∧ r = nI m ∧ I1 = pu I 1 1 (nI m)) ∨ ((a < 0 ∨ ∃ m : Nat, n < m ∧ m < 2 ^ 31 ∧ a = nI m) ∧ r = -1 ∧ I1 = I))) := by
  unfold wpX11_end
  refine ⟨fun hc => ⟨rfl, Or.inr ⟨Or.inl hc, rfl, rfl⟩⟩, fun hc => ?_⟩
  obtain ⟨m, hm, rfl⟩ := nI_of hc
  rw [hI]
  refine ⟨fun h => ?_, fun h => ?_⟩
  · intro I1 e1
    exact ⟨rfl, Or.inl ⟨m, (nI_leI hm (by omega)).mp h, rfl, rfl, e1⟩⟩
  · exact ⟨rfl, Or.inr ⟨Or.inr ⟨m, Nat.lt_of_not_le fun q => h ((nI_leI hm (by omega)).mpr q), hm, rfl⟩, rfl, rfl⟩⟩
theorem sp_endM {a : Int32} {I : Ix} {L : Lx} {n : Nat} (hn : n ≤ 1700) (hI : I 120 1 = nI n) : wpX12_end a I L (fun r I1 L1 => L1 = L ∧ ((∃ m : Nat, m ≤ n ∧ a = nI m ∧ r = nI m ∧ I1 = pu I 120 1 (nI m)) ∨ ((a < 0 ∨ ∃ m : Nat, n < m ∧ m < 2 ^ 31 ∧ a = nI m) ∧ r = -1 ∧ I1 = I))) := by
  unfold wpX12_end
  refine ⟨fun hc => ⟨rfl, Or.inr ⟨Or.inl hc, rfl, rfl⟩⟩, fun hc => ?_⟩
  obtain ⟨m, hm, rfl⟩ := nI_of hc
  rw [hI]
  refine ⟨fun h => ?_, fun h => ?_⟩
  · intro I1 e1
    exact ⟨rfl, Or.inl ⟨m, (nI_leI hm (by omega)).mp h, rfl, rfl, e1⟩⟩
  · exact ⟨rfl, Or.inr ⟨Or.inr ⟨m, Nat.lt_of_not_le fun q => h ((nI_leI hm (by omega)).mpr q), hm, rfl⟩, rfl, rfl⟩⟩

theorem sp_X11_isThing {a : Int32} {I : Ix} {L : Lx} {n : Nat} (hn : n ≤ 10) (hI : I 3 2 = nI n) : wpX11_isThing a I L (fun b I1 L1 => I1 = I ∧ L1 = L ∧ ((b = true ∧ ∃ t : Nat, t < n ∧ a = nI t) ∨ (b = false ∧ ∀ t : Nat, t < n → a ≠ nI t))) := by
  unfold wpX11_isThing
  refine ⟨fun hc => ⟨rfl, rfl, Or.inr ⟨rfl, fun t ht e => ?_⟩⟩, fun hc => ?_⟩
  · rw [e] at hc; exact nI_pos (by omega) hc
  obtain ⟨m, hm, rfl⟩ := nI_of hc
  rw [hI]
  refine ⟨fun h => ⟨rfl, rfl, Or.inr ⟨rfl, fun t ht e => ?_⟩⟩, fun h => ⟨rfl, rfl, Or.inl ⟨rfl, m, ?_, rfl⟩⟩⟩
  · have h1 := (nI_leI (by omega) hm).mp h
    have h2 := (nI_eq hm (by omega)).mp e
    omega
  · exact Nat.lt_of_not_le fun q => h ((nI_leI (by omega) hm).mpr q)
theorem sp_X12_isThing {a : Int32} {I : Ix} {L : Lx} {n : Nat} (hn : n ≤ 10) (hI : I 120 44 = nI n) : wpX12_isThing a I L (fun b I1 L1 => I1 = I ∧ L1 = L ∧ ((b = true ∧ ∃ t : Nat, t < n ∧ a = nI t) ∨ (b = false ∧ ∀ t : Nat, t < n → a ≠ nI t))) := by
  unfold wpX12_isThing
  refine ⟨fun hc => ⟨rfl, rfl, Or.inr ⟨rfl, fun t ht e => ?_⟩⟩, fun hc => ?_⟩
  · rw [e] at hc; exact nI_pos (by omega) hc
  obtain ⟨m, hm, rfl⟩ := nI_of hc
  rw [hI]
  refine ⟨fun h => ⟨rfl, rfl, Or.inr ⟨rfl, fun t ht e => ?_⟩⟩, fun h => ⟨rfl, rfl, Or.inl ⟨rfl, m, ?_, rfl⟩⟩⟩
  · have h1 := (nI_leI (by omega) hm).mp h
    have h2 := (nI_eq hm (by omega)).mp e
    omega
  · exact Nat.lt_of_not_le fun q => h ((nI_leI (by omega) hm).mpr q)
theorem sp_X11_isPerson {a : Int32} {I : Ix} {L : Lx} {n : Nat} (hn : n ≤ 10) (hI : I 3 3 = nI n) : wpX11_isPerson a I L (fun b I1 L1 => I1 = I ∧ L1 = L ∧ ((b = true ∧ ∃ t : Nat, t < n ∧ a = nI t) ∨ (b = false ∧ ∀ t : Nat, t < n → a ≠ nI t))) := by
  unfold wpX11_isPerson
  refine ⟨fun hc => ⟨rfl, rfl, Or.inr ⟨rfl, fun t ht e => ?_⟩⟩, fun hc => ?_⟩
  · rw [e] at hc; exact nI_pos (by omega) hc
  obtain ⟨m, hm, rfl⟩ := nI_of hc
  rw [hI]
  refine ⟨fun h => ⟨rfl, rfl, Or.inr ⟨rfl, fun t ht e => ?_⟩⟩, fun h => ⟨rfl, rfl, Or.inl ⟨rfl, m, ?_, rfl⟩⟩⟩
  · have h1 := (nI_leI (by omega) hm).mp h
    have h2 := (nI_eq hm (by omega)).mp e
    omega
  · exact Nat.lt_of_not_le fun q => h ((nI_leI (by omega) hm).mpr q)
theorem sp_X12_isPerson {a : Int32} {I : Ix} {L : Lx} {n : Nat} (hn : n ≤ 10) (hI : I 120 45 = nI n) : wpX12_isPerson a I L (fun b I1 L1 => I1 = I ∧ L1 = L ∧ ((b = true ∧ ∃ t : Nat, t < n ∧ a = nI t) ∨ (b = false ∧ ∀ t : Nat, t < n → a ≠ nI t))) := by
  unfold wpX12_isPerson
  refine ⟨fun hc => ⟨rfl, rfl, Or.inr ⟨rfl, fun t ht e => ?_⟩⟩, fun hc => ?_⟩
  · rw [e] at hc; exact nI_pos (by omega) hc
  obtain ⟨m, hm, rfl⟩ := nI_of hc
  rw [hI]
  refine ⟨fun h => ⟨rfl, rfl, Or.inr ⟨rfl, fun t ht e => ?_⟩⟩, fun h => ⟨rfl, rfl, Or.inl ⟨rfl, m, ?_, rfl⟩⟩⟩
  · have h1 := (nI_leI (by omega) hm).mp h
    have h2 := (nI_eq hm (by omega)).mp e
    omega
  · exact Nat.lt_of_not_le fun q => h ((nI_leI (by omega) hm).mpr q)
theorem sp_X11_isPlace {a : Int32} {I : Ix} {L : Lx} {n : Nat} (hn : n ≤ 10) (hI : I 4 0 = nI n) : wpX11_isPlace a I L (fun b I1 L1 => I1 = I ∧ L1 = L ∧ ((b = true ∧ ∃ t : Nat, t < n ∧ a = nI t) ∨ (b = false ∧ ∀ t : Nat, t < n → a ≠ nI t))) := by
  unfold wpX11_isPlace
  refine ⟨fun hc => ⟨rfl, rfl, Or.inr ⟨rfl, fun t ht e => ?_⟩⟩, fun hc => ?_⟩
  · rw [e] at hc; exact nI_pos (by omega) hc
  obtain ⟨m, hm, rfl⟩ := nI_of hc
  rw [hI]
  refine ⟨fun h => ⟨rfl, rfl, Or.inr ⟨rfl, fun t ht e => ?_⟩⟩, fun h => ⟨rfl, rfl, Or.inl ⟨rfl, m, ?_, rfl⟩⟩⟩
  · have h1 := (nI_leI (by omega) hm).mp h
    have h2 := (nI_eq hm (by omega)).mp e
    omega
  · exact Nat.lt_of_not_le fun q => h ((nI_leI (by omega) hm).mpr q)
theorem sp_X12_isPlace {a : Int32} {I : Ix} {L : Lx} {n : Nat} (hn : n ≤ 10) (hI : I 120 42 = nI n) : wpX12_isPlace a I L (fun b I1 L1 => I1 = I ∧ L1 = L ∧ ((b = true ∧ ∃ t : Nat, t < n ∧ a = nI t) ∨ (b = false ∧ ∀ t : Nat, t < n → a ≠ nI t))) := by
  unfold wpX12_isPlace
  refine ⟨fun hc => ⟨rfl, rfl, Or.inr ⟨rfl, fun t ht e => ?_⟩⟩, fun hc => ?_⟩
  · rw [e] at hc; exact nI_pos (by omega) hc
  obtain ⟨m, hm, rfl⟩ := nI_of hc
  rw [hI]
  refine ⟨fun h => ⟨rfl, rfl, Or.inr ⟨rfl, fun t ht e => ?_⟩⟩, fun h => ⟨rfl, rfl, Or.inl ⟨rfl, m, ?_, rfl⟩⟩⟩
  · have h1 := (nI_leI (by omega) hm).mp h
    have h2 := (nI_eq hm (by omega)).mp e
    omega
  · exact Nat.lt_of_not_le fun q => h ((nI_leI (by omega) hm).mpr q)
theorem sp_orNobody {a : Int32} {I : Ix} {L : Lx} {n : Nat} (hn : n ≤ 10) (hI : I 3 3 = nI n) : wpX11_isPersonOrNobody a I L (fun b I1 L1 => I1 = I ∧ L1 = L ∧ ((b = true ∧ (a = -1 ∨ ∃ t : Nat, t < n ∧ a = nI t)) ∨ (b = false ∧ a ≠ -1 ∧ ∀ t : Nat, t < n → a ≠ nI t))) := by
  unfold wpX11_isPersonOrNobody wpX11_isPersonOrNobody_b13
  refine ⟨fun hc => ⟨rfl, rfl, Or.inl ⟨rfl, Or.inl hc⟩⟩, fun hc => ?_⟩
  refine mnX11_isPerson (fun b I1 L1 _ _ h => ?_) (sp_X11_isPerson hn hI)
  obtain ⟨rfl, rfl, h⟩ := h
  refine ⟨fun e => ⟨rfl, rfl, ?_⟩, fun e => ⟨rfl, rfl, ?_⟩⟩
  · rcases h with ⟨h, -⟩ | ⟨-, h⟩
    · rw [e] at h; cases h
    · exact Or.inr ⟨rfl, hc, h⟩
  · rcases h with ⟨-, h⟩ | ⟨h, -⟩
    · exact Or.inl ⟨rfl, Or.inr h⟩
    · rw [e] at h; cases h
theorem dseed {d : Ix} {P T N dy : Nat} {w : Int32} (h : dB d P T N dy) : dB (pu d 7 2 w) P T N dy := by
  obtain ⟨h1, h2, h3, h4⟩ := h
  refine ⟨by rw [pu_eq]; simpa using h1, h2, fun t ht => ?_, fun p hp => ?_⟩
  · simp only [pu_ne d 2 w (show (0 : Nat) ≠ 7 by decide), pu_ne d 2 w (show (1 : Nat) ≠ 7 by decide), pu_ne d 2 w (show (2 : Nat) ≠ 7 by decide), pu_ne d 2 w (show (3 : Nat) ≠ 7 by decide), pu_ne d 2 w (show (4 : Nat) ≠ 7 by decide)]
    exact h3 t ht
  · rw [pu_ne d 2 w (show (5 : Nat) ≠ 7 by decide)]; exact h4 p hp
theorem ca_seed {a : Int32} {I : Ix} {L : Lx} (h : Inv I L) : wpX11_seed a I L (fun r I1 L1 => wpX12_seed a I1 L1 (fun r2 I2 L2 => r = r2 ∧ Inv I2 L2)) := by
  obtain ⟨P, T, N, lw, lt, z, cd, bg, b1, b2, b3, b4, b5, hT, hFa, hTi, hTa, hMe, hvB, hvX, hvM, hrB, hrX, hrM, hNo, hBo, hMi, hWo⟩ := h
  obtain ⟨d, dy, hd, hdX, hdM⟩ := hNo
  unfold wpX11_seed wpX12_seed
  intro I1 e1 I2 e2
  have hF : FrI [] [(53, 2)] I I1 := FrI.rf.pf e1 (by decide)
  have hF2 : FrI [] [(120, 58)] I1 I2 := FrI.rf.pf e2 (by decide)
  have hnow : iNow I2 P T N := by
    refine ⟨pu d 7 2 a, dy, dseed hd, ?_, ?_⟩
    · obtain ⟨q1, q2, q3, q4⟩ := hdX
      have s := (hF.same (rs := rsDX) (gs := [(53, 0), (53, 1)]) (by decide)).tr (hF2.same (by decide))
      have e53 : I2 53 2 = a := by rw [hF2 53 2 (by decide) (by decide), e1, pu_eq]; simp
      refine ⟨fun t ht => ?_, fun p hp => ?_, fun j hj => ?_, fun e he1 he2 t ht => ?_⟩
      · rw [s.r 54, s.r 55, s.r 56, s.r 57, s.r 58]
        simp only [pu_eq]; simpa using q1 t ht
      · rw [s.r 59, s.r 60]; simp only [pu_eq]; simpa using q2 p hp
      · have hj3 : j = 0 ∨ j = 1 ∨ j = 2 := by omega
        rcases hj3 with rfl | rfl | rfl
        · rw [s.f 53 0, pu_eq]; simpa using q3 0 (by decide)
        · rw [s.f 53 1, pu_eq]; simpa using q3 1 (by decide)
        · rw [e53, pu_eq]; simp
      · rw [s.r 61]; simp only [pu_eq]; simpa using q4 e he1 he2 t ht
    · obtain ⟨q1, q2, q3, q4⟩ := hdM
      have s := (hF.same (rs := rsDM) (gs := [(120, 57), (120, 59)]) (by decide)).tr (hF2.same (by decide))
      have e58 : I2 120 58 = a := by rw [e2, pu_eq]; simp
      refine ⟨fun t ht => ?_, fun p hp => ?_, ⟨?_, ?_, ?_⟩, fun e he1 he2 t ht => ?_⟩
      · rw [s.r 143, s.r 144, s.r 145, s.r 146, s.r 149]
        simp only [pu_eq]; simpa using q1 t ht
      · rw [s.r 147, s.r 148]; simp only [pu_eq]; simpa using q2 p hp
      · rw [s.f 120 57, pu_eq]; simpa using q3.1
      · rw [s.f 120 59, pu_eq]; simpa using q3.2.1
      · rw [e58, pu_eq]; simp
      · rw [s.r 150]; simp only [pu_eq]; simpa using q4 e he1 he2 t ht
  refine ⟨?_, ⟨P, T, N, lw, lt, z, cd, bg, b1, b2, b3, b4, b5, hT.keep ((hF.same (by decide)).tr (hF2.same (by decide))), hFa.keep ((hF.same (by decide)).tr (hF2.same (by decide))), hTi.keep ((hF.same (by decide)).tr (hF2.same (by decide))), hTa.keep ((hF.same (by decide)).tr (hF2.same (by decide))), hMe.keep ((hF.same (by decide)).tr (hF2.same (by decide))), hvB, hvX.keep ((hF.same (by decide)).tr (hF2.same (by decide))), hvM.keep ((hF.same (by decide)).tr (hF2.same (by decide))), hrB, hrX.keep ((hF.same (by decide)).tr (hF2.same (by decide))), hrM.keep ((hF.same (by decide)).tr (hF2.same (by decide))), hnow, hBo.keep ((hF.same (by decide)).tr (hF2.same (by decide))), hMi.keep ((hF.same (by decide)).tr (hF2.same (by decide))), hWo⟩⟩
  rw [hF 120 58 (by decide) (by decide), hdM.2.2.1.2.2]
  exact hdX.2.2.1 2 (by decide)
theorem ca_about {a : Int32} {I : Ix} {L : Lx} (h : Inv I L) : wpX11_about a I L (fun r I1 L1 => wpX12_about a I1 L1 (fun r2 I2 L2 => r = r2 ∧ Inv I2 L2)) := by
  have h' := h
  obtain ⟨P, T, N, lw, lt, z, cd, bg, b1, b2, b3, b4, b5, hT, hFa, hTi, hTa, hMe, hvB, hvX, hvM, hrB, hrX, hrM, hNo, hBo, hMi, hWo⟩ := h
  obtain ⟨d, dy, hd, hdX, hdM⟩ := hNo
  obtain ⟨n, hn, hX, hM, ht⟩ := hT
  obtain ⟨tm, htm, hX2, hM2⟩ := hTi
  obtain ⟨c, hc, hX3, hM3, hc4⟩ := hTa
  have e0 : I 4 0 = I 120 42 := hvX.1.trans hvM.1.symm
  have e1 : I 4 1 = I 120 43 := hMe.1
  have e2 : I 3 2 = I 120 44 := hvX.2.1.trans hvM.2.1.symm
  have e3 : I 3 3 = I 120 45 := hvX.2.2.1.trans hvM.2.2.1.symm
  have e4 : I 53 0 = I 120 57 := (hdX.2.2.1 0 (by decide)).trans hdM.2.2.1.1.symm
  have e5 : I 85 0 = I 120 93 := hX3.trans hM3.symm
  have e6 : I 0 11 = I 120 94 := hX2.trans hM2.symm
  have e7 : I 1 1 = I 120 1 := hX.trans hM.symm
  have e8 : I 53 2 = I 120 58 := (hdX.2.2.1 2 (by decide)).trans hdM.2.2.1.2.2.symm
  have e9 : I 10 0 = I 120 21 := hMe.2
  have e10 : I 53 1 = I 120 59 := (hdX.2.2.1 1 (by decide)).trans hdM.2.2.1.2.1.symm
  unfold wpX11_about wpX12_about
  rw [e0, e1, e2, e3, e4, e5, e6, e7, e8, e9, e10]
  refine ⟨fun e => ?_, fun e => ?_, fun e => ?_, fun e => ?_, fun e => ?_, fun e => ?_, fun e => ?_, fun e => ?_, fun e => ?_, fun e => ?_, fun e => ?_, ?_⟩
  all_goals first | (subst e; refine ⟨fun q => ?_, fun q => ?_, fun q => ?_, fun q => ?_, fun q => ?_, fun q => ?_, fun q => ?_, fun q => ?_, fun q => ?_, fun q => ?_, fun q => ?_, ?_⟩ <;> first | exact ⟨rfl, h'⟩ | exact absurd q (by decide) | (intro q0 q1 q2 q3 q4 q5 q6 q7 q8 q9 q10; first | exact absurd rfl q0 | exact absurd rfl q1 | exact absurd rfl q2 | exact absurd rfl q3 | exact absurd rfl q4 | exact absurd rfl q5 | exact absurd rfl q6 | exact absurd rfl q7 | exact absurd rfl q8 | exact absurd rfl q9 | exact absurd rfl q10)) | skip
  intro q0 q1 q2 q3 q4 q5 q6 q7 q8 q9 q10
  exact ⟨fun q => absurd q q0, fun q => absurd q q1, fun q => absurd q q2, fun q => absurd q q3, fun q => absurd q q4, fun q => absurd q q5, fun q => absurd q q6, fun q => absurd q q7, fun q => absurd q q8, fun q => absurd q q9, fun q => absurd q q10, fun _ _ _ _ _ _ _ _ _ _ _ => ⟨rfl, h'⟩⟩
theorem ix8 {x y : Nat} : nI x * 8 + nI y = nI (8 * x + y) := by
  have := pk_mul x 8
  rw [show nI 8 = 8 from by decide] at this
  rw [this, nI_add]; congr 1; omega
theorem ix8' {x y : Nat} : 8 * nI x + nI y = nI (8 * x + y) := by
  have := pk_mul 8 x
  rw [show nI 8 = 8 from by decide] at this
  rw [this, nI_add]
theorem ca_far {a b : Int32} {I : Ix} {L : Lx} (h : Inv I L) : wpX11_far a b I L (fun r I1 L1 => wpX12_far a b I1 L1 (fun r2 I2 L2 => r = r2 ∧ Inv I2 L2)) := by
  have h' := h
  obtain ⟨P, T, N, lw, lt, z, cd, bg, b1, b2, b3, b4, b5, hT, hFa, hTi, hTa, hMe, hvB, hvX, hvM, hrB, hrX, hrM, hNo, hBo, hMi, hWo⟩ := h
  unfold wpX11_far
  refine mnX11_isPlace (fun r I1 L1 _ _ h1 => ?_) (sp_X11_isPlace (by omega) hvX.1)
  obtain ⟨rfl, rfl, h1⟩ := h1
  have hb : ∀ (K : Int32 → Ix → Lx → Prop), ((∀ x, x < P → ∀ y, y < P → a = nI x → b = nI y → K (nI (z 1 (8 * x + y))) I1 L1) ∧ ((∀ x, x < P → ∀ y, y < P → a = nI x → b = nI y → False) → K (-1) I1 L1)) → wpX12_far a b I1 L1 K := by
    intro K hK
    unfold wpX12_far
    refine mnX12_isPlace (fun r3 I3 L3 _ _ h3 => ?_) (sp_X12_isPlace (by omega) hvM.1)
    obtain ⟨rfl, rfl, h3⟩ := h3
    refine ⟨fun e => ?_, fun e => ?_⟩
    · rcases h3 with ⟨q, -⟩ | ⟨-, q⟩
      · rw [e] at q; cases q
      · exact hK.2 fun x hx y hy e1 _ => q x hx e1
    rcases h3 with ⟨-, x, hx, rfl⟩ | ⟨q, -⟩
    · refine mnX12_isPlace (fun r4 I4 L4 _ _ h4 => ?_) (sp_X12_isPlace (by omega) hvM.1)
      obtain ⟨rfl, rfl, h4⟩ := h4
      refine ⟨fun e => ?_, fun e => ?_⟩
      · rcases h4 with ⟨q, -⟩ | ⟨-, q⟩
        · rw [e] at q; cases q
        · exact hK.2 fun x' hx' y hy _ e1 => q y hy e1
      rcases h4 with ⟨-, y, hy, rfl⟩ | ⟨q, -⟩
      · unfold wpX12_farOf
        rw [ix8']
        refine ⟨vp_in_nI (by omega) (by decide), ?_⟩
        rw [nI_clamp (by omega), hvM.2.2.2.2.2.2.1 x hx y hy]
        exact hK.1 x hx y hy rfl rfl
      · rw [e] at q; cases q
    · rw [e] at q; cases q
  refine ⟨fun e => ?_, fun e => ?_⟩
  · rcases h1 with ⟨q, -⟩ | ⟨-, q⟩
    · rw [e] at q; cases q
    · exact hb _ ⟨fun x hx y hy e1 _ => absurd e1 (q x hx), fun _ => ⟨rfl, h'⟩⟩
  rcases h1 with ⟨-, x, hx, rfl⟩ | ⟨q, -⟩
  · refine mnX11_isPlace (fun r I3 L3 _ _ h3 => ?_) (sp_X11_isPlace (by omega) hvX.1)
    obtain ⟨rfl, rfl, h3⟩ := h3
    refine ⟨fun e => ?_, fun e => ?_⟩
    · rcases h3 with ⟨q, -⟩ | ⟨-, q⟩
      · rw [e] at q; cases q
      · exact hb _ ⟨fun x hx y hy _ e1 => absurd e1 (q y hy), fun _ => ⟨rfl, h'⟩⟩
    rcases h3 with ⟨-, y, hy, rfl⟩ | ⟨q, -⟩
    · unfold wpX1_minutes_4
      rw [ix8]
      refine ⟨vp_in_nI (by omega) (by decide), ?_⟩
      rw [nI_clamp (by omega), hvX.2.2.2.2.2.2.1 x hx y hy]
      refine hb _ ⟨fun x2 hx2 y2 hy2 e1 e2 => ?_, fun q => (q x hx y hy rfl rfl).elim⟩
      have g1 := (nI_eq (by omega) (by omega)).mp e1
      have g2 := (nI_eq (by omega) (by omega)).mp e2
      subst g1; subst g2
      exact ⟨rfl, h'⟩
    · rw [e] at q; cases q
  · rw [e] at q; cases q

/-- the reference's test of a person or nobody, and what follows -/
theorem ca_give {a b : Int32} {I : Ix} {L : Lx} (h : Inv I L) : wpX11_give a b I L (fun r I1 L1 => wpX12_give a b I1 L1 (fun r2 I2 L2 => r = r2 ∧ Inv I2 L2)) := by
  have h' := h
  obtain ⟨P, T, N, lw, lt, z, cd, bg, b1, b2, b3, b4, b5, hT, hFa, hTi, hTa, hMe, hvB, hvX, hvM, hrB, hrX, hrM, hNo, hBo, hMi, hWo⟩ := h
  have hNo' := hNo
  obtain ⟨d, dy, hd, hdX, hdM⟩ := hNo
  -- the reference's side
  have hM : ∀ (J : Ix) (K : Bool → Ix → Lx → Prop), J 120 44 = nI T → J 120 45 = nI N → ((∃ t : Nat, t < T ∧ a = nI t ∧ J 149 t = 0 ∧ (b = -1 ∨ ∃ p : Nat, p < N ∧ b = nI p) ∧ K true (pu J 143 t b) L) ∨ ((∀ t : Nat, t < T → a = nI t → J 149 t = 0 → b ≠ -1 ∧ ∀ p : Nat, p < N → b ≠ nI p) ∧ K false J L)) → wpX12_give a b J L K := by
    intro J K hJ1 hJ2 hK
    unfold wpX12_give wpX12_give_b32
    refine mnX12_isThing (fun r I1 L1 _ _ h1 => ?_) (sp_X12_isThing (by omega) hJ1)
    obtain ⟨rfl, rfl, h1⟩ := h1
    rcases h1 with ⟨rfl, t, ht, rfl⟩ | ⟨rfl, h1⟩
    · have hin : vp_in (nI t) 10 := vp_in_nI (by omega) (by decide)
      rw [nI_clamp (show t < 2 ^ 31 by omega)]
      refine ⟨fun e => (by cases e), fun _ => ⟨hin, fun e => ?_, fun e => ⟨fun eb => ⟨hin, ?_⟩, fun eb => ?_⟩⟩⟩
      · rcases hK with ⟨s, hs, es, e0, -⟩ | ⟨-, k⟩
        · have := (nI_eq (by omega) (by omega)).mp es; subst this; exact absurd e0 e
        · exact k
      · intro I2 e2
        rcases hK with ⟨s, hs, es, -, -, k⟩ | ⟨k, -⟩
        · have := (nI_eq (by omega) (by omega)).mp es; subst this; rw [e2]; exact k
        · exact absurd eb (k t ht rfl e).1
      · refine mnX12_isPerson (fun r I2 L2 _ _ h2 => ?_) (sp_X12_isPerson (by omega) hJ2)
        obtain ⟨rfl, rfl, h2⟩ := h2
        rcases h2 with ⟨rfl, p, hp, rfl⟩ | ⟨rfl, h2⟩
        · refine ⟨fun _ => ⟨hin, ?_⟩, fun e => (by cases e)⟩
          intro I3 e3
          rcases hK with ⟨s, hs, es, -, -, k⟩ | ⟨k, -⟩
          · have := (nI_eq (by omega) (by omega)).mp es; subst this; rw [e3]; exact k
          · exact absurd rfl ((k t ht rfl e).2 p hp)
        · refine ⟨fun e => (by cases e), fun _ => ?_⟩
          rcases hK with ⟨s, hs, es, -, q, -⟩ | ⟨-, k⟩
          · rcases q with q | ⟨p, hp, q⟩
            · exact absurd q eb
            · exact absurd q (h2 p hp)
          · exact k
    · refine ⟨fun _ => ?_, fun e => (by cases e)⟩
      rcases hK with ⟨s, hs, es, -⟩ | ⟨-, k⟩
      · exact absurd es (h1 s hs)
      · exact k
  unfold wpX11_give
  refine mnX11_isThing (fun r I1 L1 _ _ h1 => ?_) (sp_X11_isThing (by omega) hvX.2.1)
  obtain ⟨rfl, rfl, h1⟩ := h1
  rcases h1 with ⟨rfl, t, ht, rfl⟩ | ⟨rfl, h1⟩
  · refine ⟨fun e => (by cases e), fun _ => ?_⟩
    have hin : vp_in (nI t) 10 := vp_in_nI (by omega) (by decide)
    have g5 : I1 58 t = I1 149 t := (hdX.1 t ht).2.2.2.2.trans (hdM.1 t ht).2.2.2.2.symm
    refine mnX11_isPersonOrNobody (fun r I4 L4 _ _ h2 => ?_) (sp_orNobody (by omega) hvX.2.2.1)
    obtain ⟨rfl, rfl, h2⟩ := h2
    rw [nI_clamp (show t < 2 ^ 31 by omega)]
    rcases h2 with ⟨rfl, h2⟩ | ⟨rfl, h2⟩
    · refine ⟨fun e => (by cases e), fun _ => ⟨hin, fun e => ⟨hin, ?_⟩, fun e => ?_⟩⟩
      · intro I7 e7
        refine hM I7 _ (by rw [e7, pu_eq]; simpa using hvM.2.1) (by rw [e7, pu_eq]; simpa using hvM.2.2.1) (Or.inl ⟨t, ht, rfl, by rw [e7, pu_eq]; simpa using g5.symm.trans e, h2, rfl, ?_⟩)
        generalize e8 : pu I7 143 t b = I8
        have e8 := e8.symm
        have hF : FrI [54] [] I4 I7 := FrI.rf.pw e7 (by decide)
        have hF2 : FrI [143] [] I7 I8 := FrI.rf.pw e8 (by decide)
        exact ⟨P, T, N, lw, lt, z, cd, bg, b1, b2, b3, b4, b5, hT.keep ((hF.same (by decide)).tr (hF2.same (by decide))), hFa.keep ((hF.same (by decide)).tr (hF2.same (by decide))), hTi.keep ((hF.same (by decide)).tr (hF2.same (by decide))), hTa.keep ((hF.same (by decide)).tr (hF2.same (by decide))), hMe.keep ((hF.same (by decide)).tr (hF2.same (by decide))), hvB, hvX.keep ((hF.same (by decide)).tr (hF2.same (by decide))), hvM.keep ((hF.same (by decide)).tr (hF2.same (by decide))), hrB, hrX.keep ((hF.same (by decide)).tr (hF2.same (by decide))), hrM.keep ((hF.same (by decide)).tr (hF2.same (by decide))), now_put 0 54 143 (Or.inl ⟨rfl, rfl, rfl⟩) ht b2 ⟨fun _ => h2, fun e => absurd e (by decide)⟩ e7 e8 hNo', hBo.keep ((hF.same (by decide)).tr (hF2.same (by decide))), hMi.keep ((hF.same (by decide)).tr (hF2.same (by decide))), hWo⟩
      · exact hM I4 _ hvM.2.1 hvM.2.2.1 (Or.inr ⟨fun s hs es e0 => by
          have := (nI_eq (by omega) (by omega)).mp es
          subst this
          exact absurd (g5.trans e0) e, rfl, h'⟩)
    · refine ⟨fun _ => ?_, fun e => (by cases e)⟩
      exact hM I4 _ hvM.2.1 hvM.2.2.1 (Or.inr ⟨fun _ _ _ _ => h2, rfl, h'⟩)
  · refine ⟨fun _ => ?_, fun e => (by cases e)⟩
    exact hM I1 _ hvM.2.1 hvM.2.2.1 (Or.inr ⟨fun s hs es _ => absurd es (h1 s hs), rfl, h'⟩)
theorem ca_chip {a b : Int32} {I : Ix} {L : Lx} (h : Inv I L) : wpX11_chip a b I L (fun r I1 L1 => wpX12_chip a b I1 L1 (fun r2 I2 L2 => r = r2 ∧ Inv I2 L2)) := by
  have h' := h
  obtain ⟨P, T, N, lw, lt, z, cd, bg, b1, b2, b3, b4, b5, hT, hFa, hTi, hTa, hMe, hvB, hvX, hvM, hrB, hrX, hrM, hNo, hBo, hMi, hWo⟩ := h
  have hNo' := hNo
  obtain ⟨d, dy, hd, hdX, hdM⟩ := hNo
  have hM : ∀ (J : Ix) (K : Int32 → Ix → Lx → Prop), J 120 44 = nI T → ((∃ t : Nat, t < T ∧ a = nI t ∧ ¬ b < 0 ∧ b ≤ J 146 t ∧ K (J 146 t - b) (pu J 146 t (J 146 t - b)) L) ∨ ((∀ t : Nat, t < T → a = nI t → ¬ b < 0 → ¬ b ≤ J 146 t) ∧ K (-1) J L)) → wpX12_chip a b J L K := by
    intro J K hJ1 hK
    unfold wpX12_chip
    refine mnX12_isThing (fun r I1 L1 _ _ h1 => ?_) (sp_X12_isThing (by omega) hJ1)
    obtain ⟨rfl, rfl, h1⟩ := h1
    rcases h1 with ⟨rfl, t, ht, rfl⟩ | ⟨rfl, h1⟩
    · have hin : vp_in (nI t) 10 := vp_in_nI (by omega) (by decide)
      rw [nI_clamp (show t < 2 ^ 31 by omega)]
      refine ⟨fun e => (by cases e), fun _ => ⟨fun e => ?_, fun e => ⟨hin, fun e2 => ⟨hin, hin, ?_⟩, fun e2 => ?_⟩⟩⟩
      · rcases hK with ⟨s, hs, es, e0, -⟩ | ⟨-, k⟩
        · exact absurd e e0
        · exact k
      · intro I2 eI2
        refine ⟨hin, ?_⟩
        rcases hK with ⟨s, hs, es, -, -, k⟩ | ⟨k, -⟩
        · have := (nI_eq (by omega) (by omega)).mp es
          subst this
          have hv : I2 146 t = I1 146 t - b := by rw [eI2, pu_eq]; simp
          rw [hv, eI2]; exact k
        · exact absurd e2 (k t ht rfl e)
      · rcases hK with ⟨s, hs, es, -, q, -⟩ | ⟨-, k⟩
        · have := (nI_eq (by omega) (by omega)).mp es; subst this; exact absurd q e2
        · exact k
    · refine ⟨fun _ => ?_, fun e => (by cases e)⟩
      rcases hK with ⟨s, hs, es, -⟩ | ⟨-, k⟩
      · exact absurd es (h1 s hs)
      · exact k
  unfold wpX11_chip
  refine mnX11_isThing (fun r I1 L1 _ _ h1 => ?_) (sp_X11_isThing (by omega) hvX.2.1)
  obtain ⟨rfl, rfl, h1⟩ := h1
  rcases h1 with ⟨rfl, t, ht, rfl⟩ | ⟨rfl, h1⟩
  · have hin : vp_in (nI t) 10 := vp_in_nI (by omega) (by decide)
    have g4 : I1 57 t = I1 146 t := (hdX.1 t ht).2.2.2.1.trans (hdM.1 t ht).2.2.2.1.symm
    obtain ⟨w, hw, ew⟩ := (hd.2.2.1 t ht).2.2.2.1
    have ew : I1 57 t = nI w := (hdX.1 t ht).2.2.2.1.trans ew
    rw [nI_clamp (show t < 2 ^ 31 by omega)]
    refine ⟨fun e => (by cases e), fun _ => ⟨fun e => ?_, fun e => ⟨hin, fun e2 => ⟨hin, hin, ?_⟩, fun e2 => ?_⟩⟩⟩
    · exact hM I1 _ hvM.2.1 (Or.inr ⟨fun _ _ _ q => absurd e q, rfl, h'⟩)
    · intro I7 e7
      refine ⟨hin, ?_⟩
      have hv : I7 57 t = I1 57 t - b := by rw [e7, pu_eq]; simp
      have hw7 : I7 146 t = I1 57 t := by rw [e7, pu_eq]; simpa using g4.symm
      refine hM I7 _ (by rw [e7, pu_eq]; simpa using hvM.2.1) (Or.inl ⟨t, ht, rfl, e, by rw [hw7]; exact e2, ?_, ?_⟩)
      · rw [hv, hw7]
      rw [hw7]
      generalize e8 : pu I7 146 t (I1 57 t - b) = I8
      have e8 := e8.symm
      have hF : FrI [57] [] I1 I7 := FrI.rf.pw e7 (by decide)
      have hF2 : FrI [146] [] I7 I8 := FrI.rf.pw e8 (by decide)
      have hx : ∃ q : Nat, q ≤ 99 ∧ I1 57 t - b = nI q := by
        obtain ⟨m, hm, rfl⟩ := nI_of e
        rw [ew] at e2 ⊢
        have := (nI_leI hm (by omega)).mp e2
        exact ⟨w - m, by omega, pk_sub this⟩
      exact ⟨P, T, N, lw, lt, z, cd, bg, b1, b2, b3, b4, b5, hT.keep ((hF.same (by decide)).tr (hF2.same (by decide))), hFa.keep ((hF.same (by decide)).tr (hF2.same (by decide))), hTi.keep ((hF.same (by decide)).tr (hF2.same (by decide))), hTa.keep ((hF.same (by decide)).tr (hF2.same (by decide))), hMe.keep ((hF.same (by decide)).tr (hF2.same (by decide))), hvB, hvX.keep ((hF.same (by decide)).tr (hF2.same (by decide))), hvM.keep ((hF.same (by decide)).tr (hF2.same (by decide))), hrB, hrX.keep ((hF.same (by decide)).tr (hF2.same (by decide))), hrM.keep ((hF.same (by decide)).tr (hF2.same (by decide))), now_put 3 57 146 (Or.inr ⟨rfl, rfl, rfl⟩) ht b2 ⟨fun e => absurd e (by decide), fun _ => hx⟩ e7 e8 hNo', hBo.keep ((hF.same (by decide)).tr (hF2.same (by decide))), hMi.keep ((hF.same (by decide)).tr (hF2.same (by decide))), hWo⟩
    · exact hM I1 _ hvM.2.1 (Or.inr ⟨fun s hs es _ => by
        have := (nI_eq (by omega) (by omega)).mp es
        subst this
        rw [← g4]; exact e2, rfl, h'⟩)
  · refine ⟨fun _ => ?_, fun e => (by cases e)⟩
    exact hM I1 _ hvM.2.1 (Or.inr ⟨fun s hs es _ => absurd es (h1 s hs), rfl, h'⟩)

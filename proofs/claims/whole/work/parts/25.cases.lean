theorem ca_feed {a1 a2 a3 a4 a5 : Int32} {I : Ix} {L : Lx} (h : Inv I L) : wpX11_feed a1 a2 a3 a4 a5 I L (fun r I1 L1 => wpX12_feed a1 a2 a3 a4 a5 I1 L1 (fun r2 I2 L2 => r = r2 ∧ Inv I2 L2)) := by
  obtain ⟨P, T, N, lw, lt, z, cd, bg, b1, b2, b3, b4, b5, hT, hFa, hTi, hTa, hMe, hvB, hvX, hvM, hrB, hrX, hrM, hNo, hBo, hMi, hWo⟩ := h
  obtain ⟨n, hn, hX, hM, ht⟩ := hT
  refine mnX11_feed (fun r I1 L1 hF hL hp => ?_) (sp_feedX hn hX)
  have hM1 : I1 120 1 = nI n := (hF 120 1 (by decide) (by decide)).trans hM
  refine mnX12_feed (fun r2 I2 L2 hF2 hL2 hp2 => ?_) (sp_feedM hn hM1)
  obtain ⟨-, hp⟩ := hp
  obtain ⟨-, hp2⟩ := hp2
  have htape : r = r2 ∧ iTape I2 := by
    rcases hp with ⟨q1, q2, q3⟩ | ⟨q1, q2, q3⟩
    · rcases hp2 with ⟨w1, w2, w3⟩ | ⟨w1, w2, w3⟩
      · exact ⟨q2.trans w2.symm, tape_feed q1 ht q3 w3 (fun j => hF 121 j (by decide) (by intro hq; simp at hq)) (fun j => hF2 2 j (by decide) (by intro hq; simp at hq)) (hF2 1 1 (by decide) (by decide))⟩
      · omega
    · rcases hp2 with ⟨w1, w2, w3⟩ | ⟨w1, w2, w3⟩
      · omega
      · subst q3; subst w3; exact ⟨q2.trans w2.symm, n, hn, hX, hM, ht⟩
  exact ⟨htape.1, ⟨P, T, N, lw, lt, z, cd, bg, b1, b2, b3, b4, b5, htape.2, hFa.keep ((hF.same (by decide)).tr (hF2.same (by decide))), hTi.keep ((hF.same (by decide)).tr (hF2.same (by decide))), hTa.keep ((hF.same (by decide)).tr (hF2.same (by decide))), hMe.keep ((hF.same (by decide)).tr (hF2.same (by decide))), hvB, hvX.keep ((hF.same (by decide)).tr (hF2.same (by decide))), hvM.keep ((hF.same (by decide)).tr (hF2.same (by decide))), hrB, hrX.keep ((hF.same (by decide)).tr (hF2.same (by decide))), hrM.keep ((hF.same (by decide)).tr (hF2.same (by decide))), hNo.keep ((hF.same (by decide)).tr (hF2.same (by decide))), hBo.keep ((hF.same (by decide)).tr (hF2.same (by decide))), hMi.keep ((hF.same (by decide)).tr (hF2.same (by decide))), hWo.keep (by rw [hL2.row (by decide) (by decide), hL.row (by decide) (by decide)])⟩⟩
theorem ca_end {a : Int32} {I : Ix} {L : Lx} (h : Inv I L) : wpX11_end a I L (fun r I1 L1 => wpX12_end a I1 L1 (fun r2 I2 L2 => r = r2 ∧ Inv I2 L2)) := by
  obtain ⟨P, T, N, lw, lt, z, cd, bg, b1, b2, b3, b4, b5, hT, hFa, hTi, hTa, hMe, hvB, hvX, hvM, hrB, hrX, hrM, hNo, hBo, hMi, hWo⟩ := h
  obtain ⟨n, hn, hX, hM, ht⟩ := hT
  refine mnX11_end (fun r I1 L1 hF hL hp => ?_) (sp_endX hn hX)
  have hM1 : I1 120 1 = nI n := (hF 120 1 (by decide) (by decide)).trans hM
  refine mnX12_end (fun r2 I2 L2 hF2 hL2 hp2 => ?_) (sp_endM hn hM1)
  obtain ⟨-, hp⟩ := hp
  obtain ⟨-, hp2⟩ := hp2
  have htape : r = r2 ∧ iTape I2 := by
    rcases hp with ⟨m, q1, q2, q3, q4⟩ | ⟨q1, q3, q4⟩
    · rcases hp2 with ⟨m2, w1, w2, w3, w4⟩ | ⟨w1, w3, w4⟩
      · have hm : m = m2 := (nI_eq (by omega) (by omega)).mp (q2.symm.trans w2)
        subst hm
        refine ⟨q3.trans w3.symm, m, by omega, ?_, by rw [w4, pu_eq]; simp, fun j hj => ?_⟩
        · rw [hF2 1 1 (by decide) (by decide), q4, pu_eq]; simp
        · rw [hF2 2 j (by decide) (by intro hq; simp at hq), hF2 121 j (by decide) (by intro hq; simp at hq), hF 2 j (by decide) (by intro hq; simp at hq), hF 121 j (by decide) (by intro hq; simp at hq)]
          exact ht j (by omega)
      · rcases w1 with w1 | ⟨m2, w1, w2, w5⟩
        · rw [q2] at w1; exact absurd w1 (nI_pos (by omega))
        · have := (nI_eq (by omega) w2).mp (q2.symm.trans w5); omega
    · rcases hp2 with ⟨m2, w1, w2, w3, w4⟩ | ⟨w1, w3, w4⟩
      · rcases q1 with q1 | ⟨m, q1, q2, q5⟩
        · rw [w2] at q1; exact absurd q1 (nI_pos (by omega))
        · have := (nI_eq q2 (by omega)).mp (q5.symm.trans w2); omega
      · subst q4; subst w4; exact ⟨q3.trans w3.symm, n, hn, hX, hM, ht⟩
  exact ⟨htape.1, ⟨P, T, N, lw, lt, z, cd, bg, b1, b2, b3, b4, b5, htape.2, hFa.keep ((hF.same (by decide)).tr (hF2.same (by decide))), hTi.keep ((hF.same (by decide)).tr (hF2.same (by decide))), hTa.keep ((hF.same (by decide)).tr (hF2.same (by decide))), hMe.keep ((hF.same (by decide)).tr (hF2.same (by decide))), hvB, hvX.keep ((hF.same (by decide)).tr (hF2.same (by decide))), hvM.keep ((hF.same (by decide)).tr (hF2.same (by decide))), hrB, hrX.keep ((hF.same (by decide)).tr (hF2.same (by decide))), hrM.keep ((hF.same (by decide)).tr (hF2.same (by decide))), hNo.keep ((hF.same (by decide)).tr (hF2.same (by decide))), hBo.keep ((hF.same (by decide)).tr (hF2.same (by decide))), hMi.keep ((hF.same (by decide)).tr (hF2.same (by decide))), hWo.keep (by rw [hL2.row (by decide) (by decide), hL.row (by decide) (by decide)])⟩⟩
theorem ca_fault {a : Int32} {I : Ix} {L : Lx} (h : Inv I L) : wpX11_fault a I L (fun r I1 L1 => wpX12_fault a I1 L1 (fun r2 I2 L2 => r = r2 ∧ Inv I2 L2)) := by
  have h' := h
  obtain ⟨P, T, N, lw, lt, z, cd, bg, b1, b2, b3, b4, b5, hT, hFa, hTi, hTa, hMe, hvB, hvX, hvM, hrB, hrX, hrM, hNo, hBo, hMi, hWo⟩ := h
  unfold wpX11_fault wpX12_fault
  refine ⟨fun e => ⟨fun e' => absurd e e', fun _ => ⟨hFa.1, h'⟩⟩, fun e => ⟨fun _ => ⟨fun e' => absurd e e', fun _ => ⟨hFa.2, h'⟩⟩, fun e' => ?_⟩, fun e0 e1 => ⟨fun _ => ⟨fun _ => ⟨rfl, h'⟩, fun e => absurd e e1⟩, fun e => absurd e e0⟩⟩
  rw [e] at e'; exact absurd e' (by decide)
theorem ca_later {a : Int32} {I : Ix} {L : Lx} (h : Inv I L) : wpX11_later a I L (fun r I1 L1 => wpX12_later a I1 L1 (fun r2 I2 L2 => r = r2 ∧ Inv I2 L2)) := by
  have h' := h
  obtain ⟨P, T, N, lw, lt, z, cd, bg, b1, b2, b3, b4, b5, hT, hFa, hTi, hTa, hMe, hvB, hvX, hvM, hrB, hrX, hrM, hNo, hBo, hMi, hWo⟩ := h
  obtain ⟨t, ht, hX, hM⟩ := hTi
  unfold wpX11_later wpX12_later
  refine ⟨fun e => ⟨fun _ => ⟨rfl, h'⟩, fun e' => absurd e e'⟩, fun e => ⟨fun e1 => ⟨fun e' => absurd e' e, fun _ => ⟨fun _ => ⟨rfl, h'⟩, fun e' => absurd e1 e'⟩⟩, fun e1 => ⟨fun e2 => ?_, fun e2 => ⟨fun e' => absurd e' e, fun _ => ⟨fun e' => absurd e' e1, fun _ => ⟨fun e' => ?_, fun _ => ⟨rfl, h'⟩⟩⟩⟩⟩⟩⟩
  · obtain ⟨m, hm, rfl⟩ := nI_of e
    have hm2 : m ≤ 1000 := by
      have := mt (nI_ltI (a := 1000) (by decide) hm).mpr e1; omega
    rw [hX, nI_add] at e2
    have e3 : t + m ≤ 100000 := (nI_leI (b := 100000) (by omega) (by decide)).mp e2
    intro I1 eI1
    have hM1 : I1 120 94 = nI t := by rw [eI1, pu_eq]; simp [hM]
    refine ⟨fun e' => absurd e' e, fun _ => ⟨fun e' => absurd e' e1, fun _ => ⟨fun _ => ?_, fun e' => ?_⟩⟩⟩
    · intro I2 eI2
      have hF : FrI [] [(0, 11)] I I1 := FrI.rf.pf eI1 (by decide)
      have hF2 : FrI [] [(120, 94)] I1 I2 := FrI.rf.pf eI2 (by decide)
      have r1 : I1 0 11 = nI (t + m) := by rw [eI1, pu_eq]; simp [hX, nI_add]
      have r2 : I2 120 94 = nI (t + m) := by rw [eI2, pu_eq]; simp [hM1, nI_add]
      refine ⟨r1.trans r2.symm, ⟨P, T, N, lw, lt, z, cd, bg, b1, b2, b3, b4, b5, hT.keep ((hF.same (by decide)).tr (hF2.same (by decide))), hFa.keep ((hF.same (by decide)).tr (hF2.same (by decide))), ⟨t + m, e3, (hF2 0 11 (by decide) (by decide)).trans r1, r2⟩, hTa.keep ((hF.same (by decide)).tr (hF2.same (by decide))), hMe.keep ((hF.same (by decide)).tr (hF2.same (by decide))), hvB, hvX.keep ((hF.same (by decide)).tr (hF2.same (by decide))), hvM.keep ((hF.same (by decide)).tr (hF2.same (by decide))), hrB, hrX.keep ((hF.same (by decide)).tr (hF2.same (by decide))), hrM.keep ((hF.same (by decide)).tr (hF2.same (by decide))), hNo.keep ((hF.same (by decide)).tr (hF2.same (by decide))), hBo.keep ((hF.same (by decide)).tr (hF2.same (by decide))), hMi.keep ((hF.same (by decide)).tr (hF2.same (by decide))), hWo⟩⟩
    · rw [hM1, nI_add] at e'; exact absurd e2 e'
  · rw [hM] at e'; rw [hX] at e2; exact absurd e' e2

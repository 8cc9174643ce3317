theorem ca_lift {a b : Int32} {I : Ix} {L : Lx} (h : Inv I L) : wpX11_lift a b I L (fun r I1 L1 => wpX12_lift a b I1 L1 (fun r2 I2 L2 => r = r2 ∧ Inv I2 L2)) := by
  have h' := h
  obtain ⟨P, T, N, lw, lt, z, cd, bg, b1, b2, b3, b4, b5, hT, hFa, hTi, hTa, hMe, hvB, hvX, hvM, hrB, hrX, hrM, hNo, hBo, hMi, hWo⟩ := h
  have g : ∀ t, t < T → I 141 (5 * t + 3) = I 19 t := fun t ht => ((hvM.2.2.2.2.2.2.2.1 t ht).2.2.1).trans ((hvX.2.2.2.2.2.2.2.1 t ht).2.2.1).symm
  have gp : ∀ p, p < N → I 142 (4 * p + 2) = I 24 p := fun p hp => ((hvM.2.2.2.2.2.2.2.2 p hp).2.1).trans ((hvX.2.2.2.2.2.2.2.2.1 p hp).2.1).symm
  have z0 : nI 0 = 0 := by decide
  have hM : ∀ (K : Int32 → Ix → Lx → Prop), ((∃ p q : Nat, p < N ∧ q < N ∧ a = nI p ∧ b = nI q ∧ ¬ a = b ∧ K (lfm (lfB I p q) 0 T 0) I L) ∨ ((a = b ∨ (∀ p : Nat, p < N → a ≠ nI p) ∨ (∀ p : Nat, p < N → b ≠ nI p)) ∧ K (-1) I L)) → wpX12_lift a b I L K := by
    intro K hK
    unfold wpX12_lift
    refine mnX12_isPerson (fun r I1 L1 _ _ h1 => ?_) (sp_X12_isPerson (by omega) hvM.2.2.1)
    obtain ⟨rfl, rfl, h1⟩ := h1
    rcases h1 with ⟨rfl, p, hp, hap⟩ | ⟨rfl, h1⟩
    · refine ⟨fun e => (by cases e), fun _ => ?_⟩
      refine mnX12_isPerson (fun r I2 L2 _ _ h2 => ?_) (sp_X12_isPerson (by omega) hvM.2.2.1)
      obtain ⟨rfl, rfl, h2⟩ := h2
      rcases h2 with ⟨rfl, q, hq, hbq⟩ | ⟨rfl, h2⟩
      · refine ⟨fun e => (by cases e), fun _ => ⟨fun e => ?_, fun e => ?_⟩⟩
        · rcases hK with ⟨p2, q2, hp2, hq2, ea, eb, -, k⟩ | ⟨w, -⟩
          · have := lp_liftM b2 (by omega) (by omega) hvM.2.1 g (gp p2 hp2) (gp q2 hq2) T 0 0 (Nat.zero_add T) k
            rw [z0, ← ea, ← eb] at this
            exact this
          · rcases w with w | w | w
            · exact absurd w e
            · exact absurd hap (w p hp)
            · exact absurd hbq (w q hq)
        · rcases hK with ⟨p2, q2, hp2, hq2, ea, eb, n, -⟩ | ⟨-, k⟩
          · exact absurd e n
          · exact k
      · refine ⟨fun _ => ?_, fun e => (by cases e)⟩
        rcases hK with ⟨p2, q2, hp2, hq2, ea, eb, -, -⟩ | ⟨-, k⟩
        · exact absurd eb (h2 q2 hq2)
        · exact k
    · refine ⟨fun _ => ?_, fun e => (by cases e)⟩
      rcases hK with ⟨p2, q2, hp2, hq2, ea, eb, -, -⟩ | ⟨-, k⟩
      · exact absurd ea (h1 p2 hp2)
      · exact k
  unfold wpX11_lift
  refine mnX11_isPerson (fun r I1 L1 _ _ h1 => ?_) (sp_X11_isPerson (by omega) hvX.2.2.1)
  obtain ⟨rfl, rfl, h1⟩ := h1
  rcases h1 with ⟨rfl, p, hp, hap⟩ | ⟨rfl, h1⟩
  · refine ⟨fun e => (by cases e), fun _ => ?_⟩
    refine mnX11_isPerson (fun r I2 L2 _ _ h2 => ?_) (sp_X11_isPerson (by omega) hvX.2.2.1)
    obtain ⟨rfl, rfl, h2⟩ := h2
    rcases h2 with ⟨rfl, q, hq, hbq⟩ | ⟨rfl, h2⟩
    · refine ⟨fun e => (by cases e), fun _ => ⟨fun e => ?_, fun e => hM _ (Or.inr ⟨Or.inl e, rfl, h'⟩)⟩⟩
      have := lp_liftX (Q := fun r I1 L1 => wpX12_lift a b I1 L1 (fun r2 I2 L2 => r = r2 ∧ Inv I2 L2)) (L := L2) (p := p) (q := q) b2 (by omega) (by omega) hvX.2.1 T 0 0 (Nat.zero_add T) (hM _ (Or.inl ⟨p, q, hp, hq, hap, hbq, e, rfl, h'⟩))
      rw [z0, ← hap, ← hbq] at this
      exact this
    · exact ⟨fun _ => hM _ (Or.inr ⟨Or.inr (Or.inr h2), rfl, h'⟩), fun e => (by cases e)⟩
  · exact ⟨fun _ => hM _ (Or.inr ⟨Or.inr (Or.inl h1), rfl, h'⟩), fun e => (by cases e)⟩

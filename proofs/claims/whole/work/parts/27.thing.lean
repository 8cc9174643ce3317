theorem ca_thing {a b : Int32} {I : Ix} {L : Lx} (h : Inv I L) : wpX11_thing a b I L (fun r I1 L1 => wpX12_thing a b I1 L1 (fun r2 I2 L2 => r = r2 ∧ Inv I2 L2)) := by
  have h' := h
  obtain ⟨P, T, N, lw, lt, z, cd, bg, b1, b2, b3, b4, b5, hT, hFa, hTi, hTa, hMe, hvB, hvX, hvM, hrB, hrX, hrM, hNo, hBo, hMi, hWo⟩ := h
  obtain ⟨d, dy, hd, hdX, hdM⟩ := hNo
  unfold wpX11_thing
  refine mnX11_isThing (fun r I1 L1 _ _ h1 => ?_) (sp_X11_isThing (by omega) hvX.2.1)
  obtain ⟨rfl, rfl, h1⟩ := h1
  rcases h1 with ⟨rfl, t, ht, rfl⟩ | ⟨rfl, h1⟩
  · have hin : vp_in (nI t) 10 := vp_in_nI (by omega) (by decide)
    have hcl : (nI t).toNatClampNeg = t := nI_clamp (by omega)
    obtain ⟨x1, x2, x3, x4, x5⟩ := hdX.1 t ht
    obtain ⟨m1, m2, m3, m4, m5⟩ := hdM.1 t ht
    have hpl : I1 16 t = I1 141 (5 * t) := (hvX.2.2.2.2.2.2.2.1 t ht).1.trans (hvM.2.2.2.2.2.2.2.1 t ht).1.symm
    have g1 : I1 54 t = I1 143 t := x1.trans m1.symm
    have g2 : I1 55 t = I1 144 t := x2.trans m2.symm
    have g3 : I1 56 t = I1 145 t := x3.trans m3.symm
    have g4 : I1 57 t = I1 146 t := x4.trans m4.symm
    have g5 : I1 58 t = I1 149 t := x5.trans m5.symm
    have hsp : ∀ (K : Int32 → Ix → Lx → Prop), ((b = 0 → K (I1 143 t) I1 L1) ∧ (b = 1 → K (I1 144 t) I1 L1) ∧ (b = 2 → K (I1 145 t) I1 L1) ∧ (b = 3 → (I1 149 t = 0 → K 0 I1 L1) ∧ (¬ I1 149 t = 0 → K 1 I1 L1)) ∧ (b = 4 → K (I1 141 (5 * t)) I1 L1) ∧ (b = 5 → K (I1 146 t) I1 L1) ∧ (¬ b = 0 → ¬ b = 1 → ¬ b = 2 → ¬ b = 3 → ¬ b = 4 → ¬ b = 5 → K (-2) I1 L1)) → wpX12_thing (nI t) b I1 L1 K := by
      intro K hK
      unfold wpX12_thing
      refine mnX12_isThing (fun r I3 L3 _ _ h3 => ?_) (sp_X12_isThing (by omega) hvM.2.1)
      obtain ⟨rfl, rfl, h3⟩ := h3
      rcases h3 with ⟨rfl, -⟩ | ⟨-, q⟩
      · rw [hcl]
        refine ⟨fun _ => ⟨fun e => ⟨hin, hK.1 e⟩, fun e => ⟨hin, hK.2.1 e⟩, fun e => ⟨hin, hK.2.2.1 e⟩, fun e => ⟨hin, hK.2.2.2.1 e⟩, fun e => ?_, fun e => ⟨hin, hK.2.2.2.2.2.1 e⟩, hK.2.2.2.2.2.2⟩, fun e => by cases e⟩
        unfold wpX12_placeOf
        have h5 : 5 * nI t = nI (5 * t) := by
          have := pk_mul 5 t
          rw [show nI 5 = 5 from by decide] at this
          exact this
        rw [h5, nI_clamp (by omega)]
        exact ⟨vp_in_nI (by omega) (by decide), hK.2.2.2.2.1 e⟩
      · exact absurd rfl (q t ht)
    rw [hcl]
    refine ⟨fun _ => ⟨fun e => ⟨hin, ?_⟩, fun e => ⟨hin, ?_⟩, fun e => ⟨hin, ?_⟩, fun e => ⟨hin, fun e3 => ?_, fun e3 => ?_⟩, fun e => ⟨hin, ?_⟩, fun e => ⟨hin, ?_⟩, ?_⟩, fun e => by cases e⟩
    · subst e; exact hsp _ ⟨fun _ => ⟨g1, h'⟩, fun q => absurd q (by decide), fun q => absurd q (by decide), fun q => absurd q (by decide), fun q => absurd q (by decide), fun q => absurd q (by decide), fun q => absurd rfl q⟩
    · subst e; exact hsp _ ⟨fun q => absurd q (by decide), fun _ => ⟨g2, h'⟩, fun q => absurd q (by decide), fun q => absurd q (by decide), fun q => absurd q (by decide), fun q => absurd q (by decide), fun _ q => absurd rfl q⟩
    · subst e; exact hsp _ ⟨fun q => absurd q (by decide), fun q => absurd q (by decide), fun _ => ⟨g3, h'⟩, fun q => absurd q (by decide), fun q => absurd q (by decide), fun q => absurd q (by decide), fun _ _ q => absurd rfl q⟩
    · subst e; exact hsp _ ⟨fun q => absurd q (by decide), fun q => absurd q (by decide), fun q => absurd q (by decide), fun _ => ⟨fun _ => ⟨rfl, h'⟩, fun q => absurd (g5.symm.trans e3) q⟩, fun q => absurd q (by decide), fun q => absurd q (by decide), fun _ _ _ q => absurd rfl q⟩
    · subst e; exact hsp _ ⟨fun q => absurd q (by decide), fun q => absurd q (by decide), fun q => absurd q (by decide), fun _ => ⟨fun q => absurd (g5.trans q) e3, fun _ => ⟨rfl, h'⟩⟩, fun q => absurd q (by decide), fun q => absurd q (by decide), fun _ _ _ q => absurd rfl q⟩
    · subst e; exact hsp _ ⟨fun q => absurd q (by decide), fun q => absurd q (by decide), fun q => absurd q (by decide), fun q => absurd q (by decide), fun _ => ⟨hpl, h'⟩, fun q => absurd q (by decide), fun _ _ _ _ q => absurd rfl q⟩
    · subst e; exact hsp _ ⟨fun q => absurd q (by decide), fun q => absurd q (by decide), fun q => absurd q (by decide), fun q => absurd q (by decide), fun q => absurd q (by decide), fun _ => ⟨g4, h'⟩, fun _ _ _ _ _ q => absurd rfl q⟩
    · intro q0 q1 q2 q3 q4 q5
      exact hsp _ ⟨fun q => absurd q q0, fun q => absurd q q1, fun q => absurd q q2, fun q => absurd q q3, fun q => absurd q q4, fun q => absurd q q5, fun _ _ _ _ _ _ => ⟨rfl, h'⟩⟩
  · refine ⟨fun e => (by cases e), fun _ => ?_⟩
    unfold wpX12_thing
    refine mnX12_isThing (fun r I3 L3 _ _ h3 => ?_) (sp_X12_isThing (by omega) hvM.2.1)
    obtain ⟨rfl, rfl, h3⟩ := h3
    rcases h3 with ⟨rfl, t, ht, rfl⟩ | ⟨rfl, q⟩
    · exact absurd rfl (h1 t ht)
    · exact ⟨fun e => (by cases e), fun _ => ⟨rfl, h'⟩⟩
/-- a thing's number is written on both sides -/
theorem now_put {P T N t : Nat} {I I1 I2 : Ix} {x : Int32} (r kX kM : Nat) (hr : (r = 0 ∧ kX = 54 ∧ kM = 143) ∨ (r = 3 ∧ kX = 57 ∧ kM = 146)) (ht : t < T) (hT : T ≤ 10) (hx : (r = 0 → x = -1 ∨ ∃ p : Nat, p < N ∧ x = nI p) ∧ (r = 3 → ∃ w : Nat, w ≤ 99 ∧ x = nI w)) (e1 : I1 = pu I kX t x) (e2 : I2 = pu I1 kM t x) (h : iNow I P T N) : iNow I2 P T N := by
  obtain ⟨d, dy, ⟨d1, d2, d3, d4⟩, ⟨x1, x2, x3, x4⟩, ⟨m1, m2, m3, m4⟩⟩ := h
  refine ⟨pu d r t x, dy, ⟨?_, d2, fun s hs => ?_, fun p hp => ?_⟩, ⟨fun s hs => ?_, fun p hp => ?_, fun j hj => ?_, fun e he1 he2 s hs => ?_⟩, ⟨fun s hs => ?_, fun p hp => ?_, ?_, fun e he1 he2 s hs => ?_⟩⟩
  all_goals rcases hr with ⟨rfl, rfl, rfl⟩ | ⟨rfl, rfl, rfl⟩
  all_goals subst e1 <;> subst e2 <;> simp only [pu_eq]
  · simpa using d1
  · simpa using d1
  · by_cases hst : s = t
    · subst hst; obtain ⟨-, y2, y3, y4, y5⟩ := d3 s hs; simp; exact ⟨hx.1 rfl, y2, y3, y4, y5⟩
    · simpa [hst] using d3 s hs
  · by_cases hst : s = t
    · subst hst; obtain ⟨y1, y2, y3, -, y5⟩ := d3 s hs; simp; exact ⟨y1, y2, y3, hx.2 rfl, y5⟩
    · simpa [hst] using d3 s hs
  · simpa using d4 p hp
  · simpa using d4 p hp
  · by_cases hst : s = t
    · subst hst; obtain ⟨y1, y2, y3, y4, y5⟩ := x1 s hs; simp; exact ⟨y2, y3, y4, y5⟩
    · simpa [hst] using x1 s hs
  · by_cases hst : s = t
    · subst hst; obtain ⟨y1, y2, y3, y4, y5⟩ := x1 s hs; simp; exact ⟨y1, y2, y3, y5⟩
    · simpa [hst] using x1 s hs
  · simpa using x2 p hp
  · simpa using x2 p hp
  · simpa using x3 j hj
  · simpa using x3 j hj
  · simpa using x4 e he1 he2 s hs
  · simpa using x4 e he1 he2 s hs
  · by_cases hst : s = t
    · subst hst; obtain ⟨y1, y2, y3, y4, y5⟩ := m1 s hs; simp; exact ⟨y2, y3, y4, y5⟩
    · simpa [hst] using m1 s hs
  · by_cases hst : s = t
    · subst hst; obtain ⟨y1, y2, y3, y4, y5⟩ := m1 s hs; simp; exact ⟨y1, y2, y3, y5⟩
    · simpa [hst] using m1 s hs
  · simpa using m2 p hp
  · simpa using m2 p hp
  · simpa using m3
  · simpa using m3
  · simpa using m4 e he1 he2 s hs
  · simpa using m4 e he1 he2 s hs

theorem ca_untell {a : Int32} {I : Ix} {L : Lx} (h : Inv I L) : wpX11_untell a I L (fun r I1 L1 => wpX12_untell a I1 L1 (fun r2 I2 L2 => r = r2 ∧ Inv I2 L2)) := by
  have h' := h
  obtain ⟨P, T, N, lw, lt, z, cd, bg, b1, b2, b3, b4, b5, hT, hFa, hTi, hTa, hMe, hvB, hvX, hvM, hrB, hrX, hrM, hNo, hBo, hMi, hWo⟩ := h
  have hTi' := hTi
  obtain ⟨tm, htm, ex, em⟩ := hTi'
  obtain ⟨c, hc, e1, e2, hj⟩ := hTa
  unfold wpX11_untell wpX6_takeBack wpX12_untell
  by_cases h0 : a < 0
  · exact ⟨fun _ => ⟨fun _ => ⟨rfl, h'⟩, fun q => absurd h0 q⟩, fun q => absurd h0 q⟩
  by_cases h1 : nI c ≤ a
  · exact ⟨fun q => absurd q h0, fun _ => ⟨fun _ => ⟨fun q => absurd q h0, fun _ => ⟨fun _ => ⟨rfl, h'⟩, fun q => absurd (by rw [e2]; exact h1) q⟩⟩, fun q => absurd (by rw [e1]; exact h1) q⟩⟩
  obtain ⟨j, hm, rfl⟩ := nI_of h0
  have hjc : j < c := by have := mt (nI_leI (by omega) hm).mpr h1; omega
  have hin : vp_in (nI j) 40 := vp_in_nI (by omega) (by decide)
  obtain ⟨f1, f2, f3, f4, f5, f6, f7, f8, f9, f10⟩ := hj j hjc
  rw [nI_clamp hm]
  refine ⟨fun q => absurd q h0, fun _ => ⟨fun q => absurd (by rw [e1] at q; exact q) h1, fun _ => ⟨hin, fun e => ⟨hin, ?_⟩, fun e => ?_⟩⟩⟩
  · intro I1 eI1
    have k1 : I1 120 93 = nI c := by rw [eI1, pu_eq, if_neg (fun q => absurd q.1 (by decide))]; exact e2
    have k2 : I1 168 j = -1 := by rw [eI1, pu_eq, if_neg (fun q => absurd q.1 (by decide)), ← f5]; exact e
    have k3 : I1 120 94 = nI tm := by rw [eI1, pu_eq, if_neg (fun q => absurd q.1 (by decide))]; exact em
    refine ⟨fun q => absurd q h0, fun _ => ⟨fun q => absurd (by rw [k1] at q; exact q) h1, fun _ => ⟨hin, fun _ => ⟨hin, ?_⟩, fun q => absurd (by rw [k2]; decide) q⟩⟩⟩
    intro I2 eI2
    have hF : FrI [90] [] I I1 := FrI.rf.pw eI1 (by decide)
    have hF2 : FrI [168] [] I1 I2 := FrI.rf.pw eI2 (by decide)
    have g : ∀ k i, k ≠ 90 → k ≠ 168 → I2 k i = I k i := fun k i p q => by rw [eI2, pu_eq, if_neg (fun e => q e.1), eI1, pu_eq, if_neg (fun e => p e.1)]
    have g90 : ∀ i, I2 90 i = if i = j then nI tm else I 90 i := fun i => by
      rw [eI2, pu_eq, if_neg (fun q => absurd q.1 (by decide)), eI1, pu_eq]; simp [ex]
    have g168 : ∀ i, I2 168 i = if i = j then nI tm else I 168 i := fun i => by
      rw [eI2, pu_eq, k3, eI1, pu_eq]; simp
    refine ⟨rfl, ⟨P, T, N, lw, lt, z, cd, bg, b1, b2, b3, b4, b5, hT.keep ((hF.same (by decide)).tr (hF2.same (by decide))), hFa.keep ((hF.same (by decide)).tr (hF2.same (by decide))), hTi.keep ((hF.same (by decide)).tr (hF2.same (by decide))), ?_, hMe.keep ((hF.same (by decide)).tr (hF2.same (by decide))), hvB, hvX.keep ((hF.same (by decide)).tr (hF2.same (by decide))), hvM.keep ((hF.same (by decide)).tr (hF2.same (by decide))), hrB, hrX.keep ((hF.same (by decide)).tr (hF2.same (by decide))), hrM.keep ((hF.same (by decide)).tr (hF2.same (by decide))), hNo.keep ((hF.same (by decide)).tr (hF2.same (by decide))), hBo.keep ((hF.same (by decide)).tr (hF2.same (by decide))), hMi.keep ((hF.same (by decide)).tr (hF2.same (by decide))), hWo⟩⟩
    refine ⟨c, hc, (g _ _ (by decide) (by decide)).trans e1, (g _ _ (by decide) (by decide)).trans e2, fun i hi => ?_⟩
    obtain ⟨f1, f2, f3, f4, f5, f6, f7, f8, f9, f10⟩ := hj i hi
    rw [g90, g168, g 86 i (by decide) (by decide), g 87 i (by decide) (by decide), g 88 i (by decide) (by decide), g 89 i (by decide) (by decide), g 164 i (by decide) (by decide), g 165 i (by decide) (by decide), g 166 i (by decide) (by decide), g 167 i (by decide) (by decide)]
    refine ⟨f1, f2, f3, f4, ?_, f6, f7, f8, f9, ?_⟩
    · by_cases hij : i = j
      · rw [if_pos hij, if_pos hij]
      · rw [if_neg hij, if_neg hij]; exact f5
    · by_cases hij : i = j
      · rw [if_pos hij]; exact Or.inr ⟨tm, htm, rfl⟩
      · rw [if_neg hij]; exact f10
  · have hne : ¬ I 168 j < 0 := by
      rcases f10 with q | ⟨t, ht, q⟩
      · exact absurd (f5.trans q) e
      · rw [q]; intro w
        exact absurd ((nI_ltI (b := 0) (by omega) (by decide)).mp w) (by omega)
    exact ⟨fun q => absurd q h0, fun _ => ⟨fun q => absurd (by rw [e2] at q; exact q) h1, fun _ => ⟨hin, fun q => absurd q hne, fun _ => ⟨rfl, h'⟩⟩⟩⟩
theorem ca_tale {a b c : Int32} {I : Ix} {L : Lx} (h : Inv I L) : wpX11_tale a b c I L (fun r I1 L1 => wpX12_tale a b c I1 L1 (fun r2 I2 L2 => r = r2 ∧ Inv I2 L2)) := by
  have h' := h
  obtain ⟨P, T, N, lw, lt, z, cd, bg, b1, b2, b3, b4, b5, hT, hFa, hTi, hTa, hMe, hvB, hvX, hvM, hrB, hrX, hrM, hNo, hBo, hMi, hWo⟩ := h
  have hTi' := hTi
  obtain ⟨tm, htm, ex, em⟩ := hTi'
  obtain ⟨n, hn, e1, e2, hj⟩ := hTa
  have hM : ∀ (J : Ix) (K : Int32 → Ix → Lx → Prop), J 120 44 = nI T → J 120 45 = nI N → ((¬ a < 1 ∧ ¬ 60 < a ∧ (∃ t : Nat, t < T ∧ b = nI t) ∧ (c = -1 ∨ ∃ p : Nat, p < N ∧ c = nI p) ∧ wpX12_tale_b32 K a b c J L) ∨ ((¬ a < 1 → ¬ 60 < a → (∃ t : Nat, t < T ∧ b = nI t) → c ≠ -1 ∧ ∀ p : Nat, p < N → c ≠ nI p) ∧ K (-1) J L)) → wpX12_tale a b c J L K := by
    intro J K hJ1 hJ2 hK
    unfold wpX12_tale
    refine ⟨fun q => ?_, fun q => ⟨fun q2 => ?_, fun q2 => ?_⟩⟩
    · rcases hK with ⟨k, -⟩ | ⟨-, k⟩
      · exact absurd q k
      · exact k
    · rcases hK with ⟨-, k, -⟩ | ⟨-, k⟩
      · exact absurd q2 k
      · exact k
    refine mnX12_isThing (fun r I1 L1 _ _ h1 => ?_) (sp_X12_isThing (by omega) hJ1)
    obtain ⟨rfl, rfl, h1⟩ := h1
    rcases h1 with ⟨rfl, t, ht, hb⟩ | ⟨rfl, h1⟩
    · refine ⟨fun e => (by cases e), fun _ => ⟨fun e => ?_, fun e => ?_⟩⟩
      · rcases hK with ⟨-, -, -, -, k⟩ | ⟨k, -⟩
        · exact k
        · exact absurd e (k q q2 ⟨t, ht, hb⟩).1
      refine mnX12_isPerson (fun r I2 L2 _ _ h2 => ?_) (sp_X12_isPerson (by omega) hJ2)
      obtain ⟨rfl, rfl, h2⟩ := h2
      rcases h2 with ⟨rfl, p, hp, hc⟩ | ⟨rfl, h2⟩
      · refine ⟨fun e => (by cases e), fun _ => ?_⟩
        rcases hK with ⟨-, -, -, -, k⟩ | ⟨k, -⟩
        · exact k
        · exact absurd hc ((k q q2 ⟨t, ht, hb⟩).2 p hp)
      · refine ⟨fun _ => ?_, fun e => (by cases e)⟩
        rcases hK with ⟨-, -, -, w, -⟩ | ⟨-, k⟩
        · rcases w with w | ⟨p, hp, w⟩
          · exact absurd w e
          · exact absurd w (h2 p hp)
        · exact k
    · refine ⟨fun _ => ?_, fun e => (by cases e)⟩
      rcases hK with ⟨-, -, ⟨t, ht, hb⟩, -⟩ | ⟨-, k⟩
      · exact absurd hb (h1 t ht)
      · exact k
  unfold wpX11_tale
  refine ⟨fun q => hM _ _ hvM.2.1 hvM.2.2.1 (Or.inr ⟨fun w => absurd q w, rfl, h'⟩), fun q => ⟨fun q2 => hM _ _ hvM.2.1 hvM.2.2.1 (Or.inr ⟨fun _ w => absurd q2 w, rfl, h'⟩), fun q2 => ?_⟩⟩
  refine mnX11_isThing (fun r I1 L1 _ _ h1 => ?_) (sp_X11_isThing (by omega) hvX.2.1)
  obtain ⟨rfl, rfl, h1⟩ := h1
  rcases h1 with ⟨rfl, t, ht, hb⟩ | ⟨rfl, h1⟩
  · refine ⟨fun e => (by cases e), fun _ => ?_⟩
    refine mnX11_isPersonOrNobody (fun r I4 L4 _ _ h2 => ?_) (sp_orNobody (by omega) hvX.2.2.1)
    obtain ⟨rfl, rfl, h2⟩ := h2
    rcases h2 with ⟨rfl, h2⟩ | ⟨rfl, h2, h3⟩
    · refine ⟨fun _ => ?_, fun e => (by cases e)⟩
      unfold wpX6_add
      have hcl : (nI n).toNatClampNeg = n := nI_clamp (by omega)
      by_cases hf : n = 40
      · subst hf
        refine ⟨fun e => absurd (by rw [e1] at e; exact e) (by decide), fun _ => ?_⟩
        refine hM _ _ hvM.2.1 hvM.2.2.1 (Or.inl ⟨q, q2, ⟨t, ht, hb⟩, h2, ?_⟩)
        unfold wpX12_tale_b32
        exact ⟨fun e => absurd (by rw [e2]; decide) e, fun _ => ⟨rfl, h'⟩⟩
      have hn2 : n < 40 := by omega
      have hin : vp_in (nI n) 40 := vp_in_nI hn2 (by decide)
      refine ⟨fun _ => ?_, fun e => absurd (by rw [e1]; exact (nI_ltI (b := 40) (by omega) (by decide)).mpr hn2) e⟩
      rw [e1, hcl]
      refine ⟨hin, fun J1 j1 => ?_⟩
      have x1 : J1 85 0 = nI n := by rw [j1, pu_eq, if_neg (fun q => absurd q.1 (by decide))]; exact e1
      rw [x1, hcl]
      refine ⟨hin, fun J2 j2 => ?_⟩
      have x2 : J2 85 0 = nI n := by rw [j2, pu_eq, if_neg (fun q => absurd q.1 (by decide))]; exact x1
      rw [x2, hcl]
      refine ⟨hin, fun J3 j3 => ?_⟩
      have x3 : J3 85 0 = nI n := by rw [j3, pu_eq, if_neg (fun q => absurd q.1 (by decide))]; exact x2
      rw [x3, hcl]
      refine ⟨hin, fun J4 j4 => ?_⟩
      have x4 : J4 85 0 = nI n := by rw [j4, pu_eq, if_neg (fun q => absurd q.1 (by decide))]; exact x3
      rw [x4, hcl]
      refine ⟨hin, fun J5 j5 => ?_⟩
      have x5 : J5 85 0 = nI n := by rw [j5, pu_eq, if_neg (fun q => absurd q.1 (by decide))]; exact x4
      rw [x5]
      intro J6 j6
      have x6 : J6 85 0 = nI n + 1 := by rw [j6, pu_eq, if_pos ⟨rfl, rfl⟩]
      have hF : FrI [86, 87, 88, 89, 90] [(85, 0)] I4 J6 := (((((FrI.rf.pw j1 (by decide)).pw j2 (by decide)).pw j3 (by decide)).pw j4 (by decide)).pw j5 (by decide)).pf j6 (by decide)
      have y : J6 120 93 = nI n := (hF 120 93 (by decide) (by decide)).trans e2
      have ym : J6 120 94 = nI tm := (hF 120 94 (by decide) (by decide)).trans em
      refine hM _ _ ((hF 120 44 (by decide) (by decide)).trans hvM.2.1) ((hF 120 45 (by decide) (by decide)).trans hvM.2.2.1) (Or.inl ⟨q, q2, ⟨t, ht, hb⟩, h2, ?_⟩)
      unfold wpX12_tale_b32
      refine ⟨fun _ => ?_, fun e => absurd ((nI_eq (b := 40) (by omega) (by decide)).mp (y.symm.trans e)) hf⟩
      rw [y, hcl]
      refine ⟨hin, fun K1 k1 => ?_⟩
      have y1 : K1 120 93 = nI n := by rw [k1, pu_eq, if_neg (fun q => absurd q.1 (by decide))]; exact y
      rw [y1, hcl]
      refine ⟨hin, fun K2 k2 => ?_⟩
      have y2 : K2 120 93 = nI n := by rw [k2, pu_eq, if_neg (fun q => absurd q.1 (by decide))]; exact y1
      rw [y2, hcl]
      refine ⟨hin, fun K3 k3 => ?_⟩
      have y3 : K3 120 93 = nI n := by rw [k3, pu_eq, if_neg (fun q => absurd q.1 (by decide))]; exact y2
      have ym3 : K3 120 94 = nI tm := by rw [k3, pu_eq, if_neg (fun q => absurd q.1 (by decide)), k2, pu_eq, if_neg (fun q => absurd q.1 (by decide)), k1, pu_eq, if_neg (fun q => absurd q.1 (by decide))]; exact ym
      rw [y3, hcl, ym3]
      refine ⟨hin, fun K4 k4 => ?_⟩
      have y4 : K4 120 93 = nI n := by rw [k4, pu_eq, if_neg (fun q => absurd q.1 (by decide))]; exact y3
      rw [y4, hcl]
      refine ⟨hin, fun K5 k5 => ?_⟩
      have y5 : K5 120 93 = nI n := by rw [k5, pu_eq, if_neg (fun q => absurd q.1 (by decide))]; exact y4
      rw [y5]
      intro K6 k6
      have y6 : K6 120 93 = nI n + 1 := by rw [k6, pu_eq, if_pos ⟨rfl, rfl⟩]
      have hF2 : FrI [164, 165, 166, 167, 168] [(120, 93)] J6 K6 := (((((FrI.rf.pw k1 (by decide)).pw k2 (by decide)).pw k3 (by decide)).pw k4 (by decide)).pw k5 (by decide)).pf k6 (by decide)
      have s1 : nI n + 1 = nI (n + 1) := (nI_add n 1).symm ▸ rfl
      have w86 : ∀ i, K6 86 i = if i = n then a else I4 86 i := fun i => by
        rw [hF2 86 i (by decide) (by simp), j6, pu_eq, if_neg (fun q => absurd q.1 (by decide)), j5, pu_eq, if_neg (fun q => absurd q.1 (by decide)), j4, pu_eq, if_neg (fun q => absurd q.1 (by decide)), j3, pu_eq, if_neg (fun q => absurd q.1 (by decide)), j2, pu_eq, if_neg (fun q => absurd q.1 (by decide)), j1, pu_eq]; simp
      have w87 : ∀ i, K6 87 i = if i = n then b else I4 87 i := fun i => by
        rw [hF2 87 i (by decide) (by simp), j6, pu_eq, if_neg (fun q => absurd q.1 (by decide)), j5, pu_eq, if_neg (fun q => absurd q.1 (by decide)), j4, pu_eq, if_neg (fun q => absurd q.1 (by decide)), j3, pu_eq, if_neg (fun q => absurd q.1 (by decide)), j2, pu_eq, j1, pu_eq]; simp
      have w88 : ∀ i, K6 88 i = if i = n then c else I4 88 i := fun i => by
        rw [hF2 88 i (by decide) (by simp), j6, pu_eq, if_neg (fun q => absurd q.1 (by decide)), j5, pu_eq, if_neg (fun q => absurd q.1 (by decide)), j4, pu_eq, if_neg (fun q => absurd q.1 (by decide)), j3, pu_eq, j2, pu_eq, j1, pu_eq]; simp
      have w89 : ∀ i, K6 89 i = if i = n then nI tm else I4 89 i := fun i => by
        rw [hF2 89 i (by decide) (by simp), j6, pu_eq, if_neg (fun q => absurd q.1 (by decide)), j5, pu_eq, if_neg (fun q => absurd q.1 (by decide)), j4, pu_eq, j3, pu_eq, j2, pu_eq, j1, pu_eq]; simp [ex]
      have w90 : ∀ i, K6 90 i = if i = n then -1 else I4 90 i := fun i => by
        rw [hF2 90 i (by decide) (by simp), j6, pu_eq, if_neg (fun q => absurd q.1 (by decide)), j5, pu_eq, j4, pu_eq, j3, pu_eq, j2, pu_eq, j1, pu_eq]; simp
      have w164 : ∀ i, K6 164 i = if i = n then a else I4 164 i := fun i => by
        rw [← hF 164 i (by decide) (by simp), k6, pu_eq, if_neg (fun q => absurd q.1 (by decide)), k5, pu_eq, k4, pu_eq, k3, pu_eq, k2, pu_eq, k1, pu_eq]; simp
      have w165 : ∀ i, K6 165 i = if i = n then b else I4 165 i := fun i => by
        rw [← hF 165 i (by decide) (by simp), k6, pu_eq, if_neg (fun q => absurd q.1 (by decide)), k5, pu_eq, k4, pu_eq, k3, pu_eq, k2, pu_eq, k1, pu_eq]; simp
      have w166 : ∀ i, K6 166 i = if i = n then c else I4 166 i := fun i => by
        rw [← hF 166 i (by decide) (by simp), k6, pu_eq, if_neg (fun q => absurd q.1 (by decide)), k5, pu_eq, k4, pu_eq, k3, pu_eq, k2, pu_eq, k1, pu_eq]; simp
      have w167 : ∀ i, K6 167 i = if i = n then nI tm else I4 167 i := fun i => by
        rw [← hF 167 i (by decide) (by simp), k6, pu_eq, if_neg (fun q => absurd q.1 (by decide)), k5, pu_eq, k4, pu_eq, k3, pu_eq, k2, pu_eq, k1, pu_eq]; simp
      have w168 : ∀ i, K6 168 i = if i = n then -1 else I4 168 i := fun i => by
        rw [← hF 168 i (by decide) (by simp), k6, pu_eq, if_neg (fun q => absurd q.1 (by decide)), k5, pu_eq, k4, pu_eq, k3, pu_eq, k2, pu_eq, k1, pu_eq]; simp
      refine ⟨by rw [x6, y6], ⟨P, T, N, lw, lt, z, cd, bg, b1, b2, b3, b4, b5, hT.keep ((hF.same (by decide)).tr (hF2.same (by decide))), hFa.keep ((hF.same (by decide)).tr (hF2.same (by decide))), hTi.keep ((hF.same (by decide)).tr (hF2.same (by decide))), ?_, hMe.keep ((hF.same (by decide)).tr (hF2.same (by decide))), hvB, hvX.keep ((hF.same (by decide)).tr (hF2.same (by decide))), hvM.keep ((hF.same (by decide)).tr (hF2.same (by decide))), hrB, hrX.keep ((hF.same (by decide)).tr (hF2.same (by decide))), hrM.keep ((hF.same (by decide)).tr (hF2.same (by decide))), hNo.keep ((hF.same (by decide)).tr (hF2.same (by decide))), hBo.keep ((hF.same (by decide)).tr (hF2.same (by decide))), hMi.keep ((hF.same (by decide)).tr (hF2.same (by decide))), hWo⟩⟩
      refine ⟨n + 1, hn2, ((hF2 85 0 (by decide) (by decide)).trans x6).trans s1, y6.trans s1, fun i hi => ?_⟩
      rw [w86, w87, w88, w89, w90, w164, w165, w166, w167, w168]
      by_cases hin : i = n
      · simp only [if_pos hin]
        refine ⟨trivial, trivial, trivial, trivial, trivial, ?_, ⟨t, ht, hb⟩, h2, ⟨tm, htm, rfl⟩, Or.inl trivial⟩
        have q0 : ¬ a < 0 := fun w => q (Int32.lt_trans w (by decide))
        obtain ⟨m, hm, rfl⟩ := nI_of q0
        have a1 := mt (nI_ltI (b := 1) hm (by decide)).mpr q
        have a2 := mt (nI_ltI (a := 60) (by decide) hm).mpr q2
        exact ⟨m, by omega, by omega, rfl⟩
      · simp only [if_neg hin]
        exact hj i (by omega)
    · refine ⟨fun e => (by cases e), fun _ => ?_⟩
      exact hM _ _ hvM.2.1 hvM.2.2.1 (Or.inr ⟨fun _ _ _ => ⟨h2, h3⟩, rfl, h'⟩)
  · refine ⟨fun _ => ?_, fun e => (by cases e)⟩
    exact hM _ _ hvM.2.1 hvM.2.2.1 (Or.inr ⟨fun _ _ w => absurd w (fun ⟨t, ht, hb⟩ => h1 t ht hb), rfl, h'⟩)

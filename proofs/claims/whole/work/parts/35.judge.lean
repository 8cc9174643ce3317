theorem ca_judge {a v : Int32} {I : Ix} {L : Lx} (h : Inv I L) : wpX11_judge a v I L (fun r I1 L1 => wpX12_judge a v I1 L1 (fun r2 I2 L2 => r = r2 ∧ Inv I2 L2)) := by
  have h' := h
  obtain ⟨P, T, N, lw, lt, z, cd, bg, b1, b2, b3, b4, b5, hT, hFa, hTi, hTa, hMe, hvB, hvX, hvM, hrB, hrX, hrM, hNo, hBo, hMi, hWo⟩ := h
  obtain ⟨d, dy, hd, hdX, hdM⟩ := hNo
  obtain ⟨c, hc, e1, e2, hj⟩ := hTa
  have y1 : I 53 0 = nI dy := (hdX.2.2.1 0 (by decide)).trans hd.1
  have y2 : I 120 57 = nI dy := hdM.2.2.1.1.trans hd.1
  have hjX : ∀ j, j < c → ∃ d t : Nat, 1 ≤ d ∧ d ≤ 60 ∧ I 86 j = nI d ∧ t < 10 ∧ I 87 j = nI t := fun j hjc => by
    obtain ⟨f1, f2, f3, f4, f5, ⟨d, q1, q2, q3⟩, ⟨t, q4, q5⟩, -⟩ := hj j hjc
    exact ⟨d, t, q1, q2, f1.trans q3, by omega, f2.trans q5⟩
  have hjM : ∀ j, j < c → ∀ i, i ≤ j → I 86 i = I 164 i ∧ I 87 i = I 165 i ∧ I 88 i = I 166 i ∧ I 89 i = I 167 i ∧ I 90 i = I 168 i ∧ (I 168 i = -1 ∨ ∃ t : Nat, t ≤ 100000 ∧ I 168 i = nI t) := fun j hjc i hi => by
    obtain ⟨f1, f2, f3, f4, f5, -, -, -, -, f6⟩ := hj i (by omega)
    exact ⟨f1, f2, f3, f4, f5, f6⟩
  have z0 : nI 0 = 0 := by decide
  -- the reference's side
  have hM : ∀ (K : Int32 → Ix → Lx → Prop) (f : Nat → Bool), ¬ a < 0 → a ≤ 3 → (∀ j, j < c → ∀ (P19 : Int32 → Int32 → Int32 → Int32 → Int32 → Ix → Lx → Prop) (k v4 : Int32), (f j = true → wpX12_judge_b92 K P19 a v k v4 (nI j) 1 I L) → (f j = false → wpX12_judge_b92 K P19 a v k v4 (nI j) 0 I L) → wpX12_judge_l19 K P19 a v k v4 (nI j) I L) → (2 ≤ a → K (jfst f 0 c) I L) → (¬ 2 ≤ a → K (nI (0 + jcnt f 0 c)) I L) → wpX12_judge a v I L K := by
    intro K f q1 q2 hb g1 g2
    have := lp_judge hc e2 hb c 0 0 (-1) (Nat.zero_add c) (Or.inl rfl) (fun z => by rw [if_pos rfl]; exact g1 z) g2
    rw [z0] at this
    exact ⟨fun w => absurd w q1, fun _ => ⟨fun _ => this, fun w => absurd q2 w⟩⟩
  have hle : ∀ j, j < c → ¬ I 120 93 ≤ nI j := fun j hjc w => by
    rw [e2] at w
    exact absurd ((nI_leI (by omega) (by omega)).mp w) (by omega)
  have bF : ∀ (K : Int32 → Ix → Lx → Prop), ¬ a = 1 → ¬ a = 3 → ∀ j, j < c → ∀ (P19 : Int32 → Int32 → Int32 → Int32 → Int32 → Ix → Lx → Prop) (k v4 : Int32), ((cnB I v j && flB I j) = true → wpX12_judge_b92 K P19 a v k v4 (nI j) 1 I L) → ((cnB I v j && flB I j) = false → wpX12_judge_b92 K P19 a v k v4 (nI j) 0 I L) → wpX12_judge_l19 K P19 a v k v4 (nI j) I L := by
    intro K n1 n3 j hjc P19 k v4 g1 g0
    obtain ⟨f1, f2, f3, f4, f5, f6⟩ := hjM j hjc j (Nat.le_refl j)
    obtain ⟨dd, t, q1, q2, q3, q4, q5⟩ := hjX j hjc
    have ht : t < T := by
      obtain ⟨-, -, -, -, -, -, ⟨s, hs, es⟩, -⟩ := hj j hjc
      have := (nI_eq (by omega) (by omega)).mp ((f2.trans es).symm.trans q5)
      omega
    refine ⟨fun w => absurd w (hle j hjc), fun _ => sp_X12_counts (by omega) f4 f5 f6 ⟨fun w => g0 (by simp [w]), fun w => ⟨fun _ => ⟨fun _ => ?_, fun x => absurd x n3⟩, fun x => absurd x n1⟩⟩⟩
    refine sp_X12_isFalse (dy := dy) (by omega) q1 q2 q3 (by omega) q5 f1 f2 f3 hd.2.1 y1 y2 (fun e he1 he2 => (hdX.2.2.2 e he1 he2 t ht).trans (hdM.2.2.2 e he1 he2 t ht).symm) ⟨fun x => g0 (by simp [x]), fun x => g1 (by simp [w, x])⟩
  have bO : ∀ (K : Int32 → Ix → Lx → Prop), a = 1 → ∀ j, j < c → ∀ (P19 : Int32 → Int32 → Int32 → Int32 → Int32 → Ix → Lx → Prop) (k v4 : Int32), ((cnB I v j && opB I j) = true → wpX12_judge_b92 K P19 a v k v4 (nI j) 1 I L) → ((cnB I v j && opB I j) = false → wpX12_judge_b92 K P19 a v k v4 (nI j) 0 I L) → wpX12_judge_l19 K P19 a v k v4 (nI j) I L := by
    intro K n1 j hjc P19 k v4 g1 g0
    obtain ⟨f1, f2, f3, f4, f5, f6⟩ := hjM j hjc j (Nat.le_refl j)
    refine ⟨fun w => absurd w (hle j hjc), fun _ => sp_X12_counts (by omega) f4 f5 f6 ⟨fun w => g0 (by simp [w]), fun w => ⟨fun x => absurd n1 x, fun _ => ⟨vp_in_nI (by omega) (by decide), ?_⟩⟩⟩⟩
    rw [nI_clamp (by omega), ← f1, y2, ← y1]
    refine ⟨fun x => g0 ?_, fun x => g1 ?_⟩
    · have o : opB I j = false := decide_eq_false (fun w => w x)
      simp [o]
    · have o : opB I j = true := decide_eq_true x
      simp [o, w]
  have bD : ∀ (K : Int32 → Ix → Lx → Prop), a = 3 → ∀ j, j < c → ∀ (P19 : Int32 → Int32 → Int32 → Int32 → Int32 → Ix → Lx → Prop) (k v4 : Int32), ((cnB I v j && dbB I v j) = true → wpX12_judge_b92 K P19 a v k v4 (nI j) 1 I L) → ((cnB I v j && dbB I v j) = false → wpX12_judge_b92 K P19 a v k v4 (nI j) 0 I L) → wpX12_judge_l19 K P19 a v k v4 (nI j) I L := by
    intro K n3 j hjc P19 k v4 g1 g0
    obtain ⟨f1, f2, f3, f4, f5, f6⟩ := hjM j hjc j (Nat.le_refl j)
    exact ⟨fun w => absurd w (hle j hjc), fun _ => sp_X12_counts (by omega) f4 f5 f6 ⟨fun w => g0 (by simp [w]), fun w => ⟨fun _ => ⟨fun x => absurd n3 x, fun _ => sp_isDouble (by omega) (hjM j hjc) ⟨fun x => g0 (by simp [x]), fun x => g1 (by simp [w, x])⟩⟩, fun x => absurd (n3.symm.trans x) (by decide)⟩⟩⟩
  refine ⟨fun e => ?_, fun e => ?_, fun e => ?_, fun e => ?_, fun n0 n1 n2 n3 => ?_⟩
  · subst e
    have := lp_countFalse hc e1 hjX (v := v) (L := L) (Q := fun r I1 L1 => wpX12_judge 0 v I1 L1 (fun r2 I2 L2 => r = r2 ∧ Inv I2 L2)) c 0 0 (Nat.zero_add c) (hM _ _ (by decide) (by decide) (bF _ (by decide) (by decide)) (fun w => absurd w (by decide)) (fun _ => ⟨rfl, h'⟩))
    rw [z0] at this; exact this
  · subst e
    have := lp_countOpen hc e1 (v := v) (L := L) (Q := fun r I1 L1 => wpX12_judge 1 v I1 L1 (fun r2 I2 L2 => r = r2 ∧ Inv I2 L2)) c 0 0 (Nat.zero_add c) (hM _ _ (by decide) (by decide) (bO _ rfl) (fun w => absurd w (by decide)) (fun _ => ⟨rfl, h'⟩))
    rw [z0] at this; exact this
  · subst e
    have := lp_firstFalse hc e1 hjX (v := v) (L := L) (Q := fun r I1 L1 => wpX12_judge 2 v I1 L1 (fun r2 I2 L2 => r = r2 ∧ Inv I2 L2)) c 0 (Nat.zero_add c) (hM _ _ (by decide) (by decide) (bF _ (by decide) (by decide)) (fun _ => ⟨rfl, h'⟩) (fun w => absurd (by decide) w))
    rw [z0] at this; exact this
  · subst e
    have := lp_firstDouble hc e1 (v := v) (L := L) (Q := fun r I1 L1 => wpX12_judge 3 v I1 L1 (fun r2 I2 L2 => r = r2 ∧ Inv I2 L2)) c 0 (Nat.zero_add c) (hM _ _ (by decide) (by decide) (bD _ rfl) (fun _ => ⟨rfl, h'⟩) (fun w => absurd (by decide) w))
    rw [z0] at this; exact this
  · refine ⟨fun _ => ⟨rfl, h'⟩, fun w => ⟨fun w2 => ?_, fun _ => ⟨rfl, h'⟩⟩⟩
    exfalso
    obtain ⟨m, hm, rfl⟩ := nI_of w
    have := (nI_leI (b := 3) hm (by decide)).mp w2
    have : m = 0 ∨ m = 1 ∨ m = 2 ∨ m = 3 := by omega
    rcases this with rfl | rfl | rfl | rfl
    · exact n0 rfl
    · exact n1 rfl
    · exact n2 rfl
    · exact n3 rfl

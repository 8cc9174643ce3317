theorem nI_dec (n : Nat) : nI (n + 1) + (-1) = nI n := by
  have := nI_pred n
  rw [Int32.sub_eq_add_neg] at this
  exact this
/-- from which day on the owner is x, if he was it on all of the days behind day k -/
def sinB (f : Nat → Int32) (x : Int32) : Nat → Nat
  | 0 => 1
  | k + 1 => if f k = x then sinB f x k else k + 2
theorem sp_behind {o j t : Nat} {I : Ix} {L : Lx} {Q : Int32 → Ix → Lx → Prop} (hj : j < 60) (ht : t < 10) (h : Q (I (o + 8) (10 * j + t)) I L) : wpX2_ownerBehind o (nI (j + 1)) (nI t) I L Q := by
  unfold wpX2_ownerBehind
  have e : ((nI (j + 1) - 1) * 10 + nI t) = nI (10 * j + t) := by
    rw [nI_pred, show (10 : Int32) = nI 10 from by decide, pk_mul, nI_add, Nat.mul_comm]
  rw [e, nI_clamp (by omega)]
  exact ⟨fun q => absurd ((nI_ltI (b := 0) (by omega) (by decide)).mp q) (by omega), fun _ => ⟨fun q => absurd ((nI_leI (a := 600) (by decide) (by omega)).mp q) (by omega), fun _ => ⟨vp_in_nI (by omega) (by decide), h⟩⟩⟩
theorem sp_sinX {Q : Int32 → Ix → Lx → Prop} {t : Nat} {I : Ix} {L : Lx} {f : Nat → Int32} {x : Int32} (ht : t < 10) (hx : I 54 t = x) : ∀ (k : Nat), k ≤ 60 → (∀ e, e < k → I (53 + 8) (10 * e + t) = f e) → Q (nI (sinB f x k)) I L → wpX11_since_h56 Q (nI t) (nI (k + 1)) (nI k) I L := by
  intro k
  induction k with
  | zero => intro _ _ h; exact wpX11_since_h56_fold ⟨fun _ => h, fun q => absurd (by decide) q⟩
  | succ k ih =>
    intro hk hf h
    refine wpX11_since_h56_fold ⟨fun q => absurd ((nI_ltI (b := 1) (by omega) (by decide)).mp q) (by omega), fun _ => sp_behind (by omega) ht ⟨vp_in_nI ht (by decide), fun q => ?_, fun q => ?_⟩⟩
    · rw [nI_clamp (by omega), hx, hf k (by omega)] at q
      rw [sinB, if_neg q] at h; exact h
    · rw [nI_clamp (by omega), hx, hf k (by omega)] at q
      rw [sinB, if_pos q] at h
      rw [nI_dec]; exact ih (by omega) (fun e he => hf e (by omega)) h
theorem sp_sinM {Q : Int32 → Ix → Lx → Prop} {t : Nat} {I : Ix} {L : Lx} {f : Nat → Int32} {x : Int32} (ht : t < 10) (hx : I 143 t = x) : ∀ (k : Nat), k < 60 → (∀ e, e < k → I 150 (10 * (e + 1) + t) = f e) → Q (nI (sinB f x k)) I L → wpX12_since_h63 Q (nI t) (nI (k + 1)) I L := by
  intro k
  induction k with
  | zero => intro _ _ h; exact wpX12_since_h63_fold ⟨fun _ => h, fun q => absurd (by decide) q⟩
  | succ k ih =>
    intro hk hf h
    have e : 10 * (nI (k + 1 + 1) - 1) + nI t = nI (10 * (k + 1) + t) := by
      rw [nI_pred, show (10 : Int32) = nI 10 from by decide, pk_mul, nI_add]
    refine wpX12_since_h63_fold ⟨fun q => absurd ((nI_leI (b := 1) (by omega) (by decide)).mp q) (by omega), fun _ => ?_⟩
    rw [e, nI_clamp (by omega), nI_clamp (by omega), hx, hf k (by omega)]
    refine ⟨vp_in_nI (by omega) (by decide), vp_in_nI ht (by decide), fun q => ?_, fun q => ?_⟩
    · rw [sinB, if_neg q] at h; exact h
    · rw [sinB, if_pos q] at h
      rw [nI_dec]; exact ih (by omega) (fun e he => hf e (by omega)) h
theorem ca_since {a : Int32} {I : Ix} {L : Lx} (h : Inv I L) : wpX11_since a I L (fun r I1 L1 => wpX12_since a I1 L1 (fun r2 I2 L2 => r = r2 ∧ Inv I2 L2)) := by
  have h' := h
  obtain ⟨P, T, N, lw, lt, z, cd, bg, b1, b2, b3, b4, b5, hT, hFa, hTi, hTa, hMe, hvB, hvX, hvM, hrB, hrX, hrM, hNo, hBo, hMi, hWo⟩ := h
  obtain ⟨d, dy, hd, hdX, hdM⟩ := hNo
  unfold wpX11_since
  refine mnX11_isThing (fun r I1 L1 _ _ h1 => ?_) (sp_X11_isThing (by omega) hvX.2.1)
  obtain ⟨rfl, rfl, h1⟩ := h1
  rcases h1 with ⟨rfl, t, ht, rfl⟩ | ⟨rfl, h1⟩
  · have hin : vp_in (nI t) 10 := vp_in_nI (by omega) (by decide)
    have hcl : (nI t).toNatClampNeg = t := nI_clamp (by omega)
    have x0 : I1 54 t = d 0 t := (hdX.1 t ht).1
    have m0 : I1 143 t = d 0 t := (hdM.1 t ht).1
    have hdy : dy ≤ 10000 := hd.2.1
    have xd : I1 53 0 = nI dy := (hdX.2.2.1 0 (by decide)).trans hd.1
    have md : I1 120 57 = nI dy := hdM.2.2.1.1.trans hd.1
    have xk := hdX.2.2.2
    have mk := hdM.2.2.2
    have hM : ∀ (K : Int32 → Ix → Lx → Prop), (((d 0 t = -1 ∨ dy = 0 ∨ 60 < dy) ∧ K (-1) I1 L1) ∨ (∃ e, dy = e + 1 ∧ dy ≤ 60 ∧ ¬ d 0 t = -1 ∧ (d 8 (10 * e + t) = d 0 t → K (nI (sinB (fun e => d 8 (10 * e + t)) (d 0 t) e)) I1 L1) ∧ (¬ d 8 (10 * e + t) = d 0 t → K (-1) I1 L1))) → wpX12_since (nI t) I1 L1 K := by
      intro K hK
      unfold wpX12_since
      refine mnX12_isThing (fun r I3 L3 _ _ h3 => ?_) (sp_X12_isThing (by omega) hvM.2.1)
      obtain ⟨rfl, rfl, h3⟩ := h3
      rcases h3 with ⟨rfl, -⟩ | ⟨-, q⟩
      · refine ⟨fun e => (by cases e), fun _ => ⟨hin, ?_⟩⟩
        rw [hcl, m0, md]
        rcases hK with ⟨hK, k⟩ | ⟨e, he, hs, ho, k1, k2⟩
        · refine ⟨fun _ => k, fun q => ⟨fun _ => k, fun q2 => ⟨fun _ => k, fun q3 => ?_⟩⟩⟩
          exfalso
          rcases hK with w | w | w
          · exact q (by rw [w]; decide)
          · exact q2 (by rw [w]; decide)
          · exact q3 ((nI_ltI (a := 60) (by decide) (by omega)).mpr w)
        · have hpos : ¬ d 0 t < 0 := by
            rcases (hd.2.2.1 t ht).1 with w | ⟨p, hp, w⟩
            · exact absurd w ho
            · rw [w]; intro w2; exact absurd ((nI_ltI (b := 0) (by omega) (by decide)).mp w2) (by omega)
          refine ⟨fun q => absurd q hpos, fun q => ⟨fun q2 => absurd ((nI_eq (b := 0) (by omega) (by decide)).mp q2) (by omega), fun q2 => ⟨fun q3 => absurd ((nI_ltI (a := 60) (by decide) (by omega)).mp q3) (by omega), fun q3 => ?_⟩⟩⟩
          subst he
          have e1 : 10 * nI (e + 1) + nI t = nI (10 * (e + 1) + t) := by
            rw [show (10 : Int32) = nI 10 from by decide, pk_mul, nI_add]
          rw [e1, nI_clamp (by omega), mk e (by omega) (by omega) t ht]
          refine ⟨vp_in_nI (by omega) (by decide), hin, fun w => ?_, k2⟩
          exact sp_sinM (by omega) m0 e (by omega) (fun i hi => mk i (by omega) (by omega) t ht) (k1 w)
      · exact absurd rfl (q t ht)
    refine ⟨fun e => (by cases e), fun _ => ⟨hin, ?_⟩⟩
    rw [hcl, x0, xd]
    refine ⟨fun q => hM _ (Or.inl ⟨Or.inl q, rfl, h'⟩), fun q => ⟨fun q2 => hM _ (Or.inl ⟨Or.inr (Or.inl ?_), rfl, h'⟩), fun q2 => ⟨fun q3 => ?_, fun q3 => hM _ (Or.inl ⟨Or.inr (Or.inr ?_), rfl, h'⟩)⟩⟩⟩
    · have := (nI_ltI (b := 1) (by omega) (by decide)).mp q2; omega
    · have a1 := mt (nI_ltI (b := 1) (by omega) (by decide)).mpr q2
      have a2 := (nI_leI (b := 60) (by omega) (by decide)).mp q3
      obtain ⟨e, rfl⟩ : ∃ e, dy = e + 1 := ⟨dy - 1, by omega⟩
      refine wpX11_since_h56_fold ⟨fun w => absurd w q2, fun _ => sp_behind (by omega) (by omega) ⟨hin, fun w => ?_, fun w => ?_⟩⟩
      · rw [hcl, x0, xk e (by omega) (by omega) t ht] at w
        exact hM _ (Or.inr ⟨e, rfl, a2, q, fun v => absurd v w, fun _ => ⟨rfl, h'⟩⟩)
      · rw [hcl, x0, xk e (by omega) (by omega) t ht] at w
        rw [nI_dec]
        refine sp_sinX (f := fun e => d 8 (10 * e + t)) (x := d 0 t) (by omega) x0 e (by omega) (fun i hi => xk i (by omega) (by omega) t ht) ?_
        exact hM _ (Or.inr ⟨e, rfl, a2, q, fun _ => ⟨rfl, h'⟩, fun v => absurd w v⟩)
    · have := mt (nI_leI (b := 60) (by omega) (by decide)).mpr q3; omega
  · refine ⟨fun _ => ?_, fun e => (by cases e)⟩
    unfold wpX12_since
    refine mnX12_isThing (fun r I3 L3 _ _ h3 => ?_) (sp_X12_isThing (by omega) hvM.2.1)
    obtain ⟨rfl, rfl, h3⟩ := h3
    rcases h3 with ⟨rfl, t, ht, rfl⟩ | ⟨rfl, q⟩
    · exact absurd rfl (h1 t ht)
    · exact ⟨fun _ => ⟨rfl, h'⟩, fun e => (by cases e)⟩

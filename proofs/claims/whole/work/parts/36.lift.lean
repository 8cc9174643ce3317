theorem sp_force {p : Nat} {I : Ix} {L : Lx} {Q : Int32 → Ix → Lx → Prop} (hp : p < 6) (h : Q (I 142 (4 * p + 2)) I L) : wpX12_forceOf (nI p) I L Q := by
  unfold wpX12_forceOf
  have e : 4 * nI p + 2 = nI (4 * p + 2) := by
    rw [show (4 : Int32) = nI 4 from by decide, pk_mul, show (2 : Int32) = nI 2 from by decide, nI_add]
  rw [e, nI_clamp (by omega)]
  exact ⟨vp_in_nI (by omega) (by decide), h⟩
theorem sp_heavy {t : Nat} {I : Ix} {L : Lx} {Q : Int32 → Ix → Lx → Prop} (ht : t < 10) (h : Q (I 141 (5 * t + 3)) I L) : wpX12_heavyOf (nI t) I L Q := by
  unfold wpX12_heavyOf
  have e : 5 * nI t + 3 = nI (5 * t + 3) := by
    rw [show (5 : Int32) = nI 5 from by decide, pk_mul, show (3 : Int32) = nI 3 from by decide, nI_add]
  rw [e, nI_clamp (by omega)]
  exact ⟨vp_in_nI (by omega) (by decide), h⟩
/-- the things that two lift and neither of them alone -/
def lfB (I : Ix) (p q t : Nat) : Bool := decide (¬ I 19 t ≤ I 24 p ∧ ¬ I 19 t ≤ I 24 q ∧ ¬ I 24 p + I 24 q < I 19 t)
def lfm (f : Nat → Bool) : Nat → Nat → Int32 → Int32
  | _, 0, x => x
  | i, m + 1, x => lfm f (i + 1) m (if f i = true then x ||| jshl 1 (nI i) else x)
theorem lp_liftX {Q : Int32 → Ix → Lx → Prop} {I : Ix} {L : Lx} {T p q : Nat} (hT : T ≤ 10) (hp : p < 6) (hq : q < 6) (e : I 3 2 = nI T) : ∀ (m i : Nat) (x : Int32), i + m = T → Q (lfm (lfB I p q) i m x) I L → wpX11_lift_h28 Q (nI p) (nI q) x (nI i) I L := by
  intro m
  induction m with
  | zero =>
    intro i x hi h
    refine wpX11_lift_h28_fold ⟨fun _ => h, fun w => absurd ?_ w⟩
    rw [e]; exact (nI_leI (by omega) (by omega)).mpr (by omega)
  | succ m ih =>
    intro i x hi h
    have h1 : vp_in (nI i) 10 := vp_in_nI (by omega) (by decide)
    have h2 : vp_in (nI p) 6 := vp_in_nI (by omega) (by decide)
    have h3 : vp_in (nI q) 6 := vp_in_nI (by omega) (by decide)
    have no : lfB I p q i = false → wpX11_lift_h28 Q (nI p) (nI q) x (nI i + 1) I L := fun w => by
      rw [nI_inc]; exact ih (i + 1) x (by omega) (by simpa [lfm, w] using h)
    have yes : lfB I p q i = true → wpX11_lift_h28 Q (nI p) (nI q) (x ||| jshl 1 (nI i)) (nI i + 1) I L := fun w => by
      rw [nI_inc]; exact ih (i + 1) _ (by omega) (by simpa [lfm, w] using h)
    refine wpX11_lift_h28_fold ⟨fun w => ?_, fun _ => ⟨h1, h2, ?_⟩⟩
    · rw [e] at w; exact absurd ((nI_leI (by omega) (by omega)).mp w) (by omega)
    rw [nI_clamp (show i < 2 ^ 31 by omega), nI_clamp (show p < 2 ^ 31 by omega), nI_clamp (show q < 2 ^ 31 by omega)]
    exact ⟨fun w => no (decide_eq_false (fun z => z.1 w)), fun w => ⟨h3, fun w2 => no (decide_eq_false (fun z => z.2.1 w2)), fun w2 => ⟨h2, h3, fun w3 => no (decide_eq_false (fun z => z.2.2 w3)), fun w3 => yes (decide_eq_true ⟨w, w2, w3⟩)⟩⟩⟩
theorem lp_liftM {Q : Int32 → Ix → Lx → Prop} {I : Ix} {L : Lx} {T p q : Nat} (hT : T ≤ 10) (hp : p < 6) (hq : q < 6) (e : I 120 44 = nI T) (g : ∀ t, t < T → I 141 (5 * t + 3) = I 19 t) (gp : I 142 (4 * p + 2) = I 24 p) (gq : I 142 (4 * q + 2) = I 24 q) : ∀ (m i : Nat) (x : Int32), i + m = T → Q (lfm (lfB I p q) i m x) I L → wpX12_lift_h28 Q (nI p) (nI q) x (nI i) I L := by
  intro m
  induction m with
  | zero =>
    intro i x hi h
    refine wpX12_lift_h28_fold ⟨fun _ => h, fun w => absurd ?_ w⟩
    rw [e]; exact (nI_leI (by omega) (by omega)).mpr (by omega)
  | succ m ih =>
    intro i x hi h
    have gi := g i (by omega)
    have no : lfB I p q i = false → wpX12_lift_h28 Q (nI p) (nI q) (x ||| 0) (nI i + 1) I L := fun w => by
      rw [nI_inc, Int32.or_zero]; exact ih (i + 1) x (by omega) (by simpa [lfm, w] using h)
    have yes : lfB I p q i = true → wpX12_lift_h28 Q (nI p) (nI q) (x ||| jshl 1 (nI i)) (nI i + 1) I L := fun w => by
      rw [nI_inc]; exact ih (i + 1) _ (by omega) (by simpa [lfm, w] using h)
    refine wpX12_lift_h28_fold ⟨fun w => ?_, fun _ => sp_heavy (by omega) (sp_force hp ?_)⟩
    · rw [e] at w; exact absurd ((nI_leI (by omega) (by omega)).mp w) (by omega)
    rw [gi, gp]
    refine ⟨fun w => no (decide_eq_false (fun z => z.1 w)), fun w => sp_heavy (by omega) (sp_force hq ?_)⟩
    rw [gi, gq]
    refine ⟨fun w2 => no (decide_eq_false (fun z => z.2.1 w2)), fun w2 => sp_heavy (by omega) (sp_force hp (sp_force hq ?_))⟩
    rw [gi, gp, gq]
    exact ⟨fun w3 => no (decide_eq_false (fun z => z.2.2 w3)), fun w3 => yes (decide_eq_true ⟨w, w2, w3⟩)⟩

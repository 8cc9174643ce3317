/-- how many of m tales from the i-th on; the first of them; whether one -/
def jcnt (f : Nat → Bool) : Nat → Nat → Nat
  | _, 0 => 0
  | i, m + 1 => (if f i = true then 1 else 0) + jcnt f (i + 1) m
def jfst (f : Nat → Bool) : Nat → Nat → Int32
  | _, 0 => -1
  | i, m + 1 => if f i = true then nI i else jfst f (i + 1) m
def jany (f : Nat → Bool) : Nat → Nat → Bool
  | _, 0 => false
  | i, m + 1 => if f i = true then true else jany f (i + 1) m
theorem nI_inc (n : Nat) : nI n + 1 = nI (n + 1) := nI_add n 1
theorem lp_countFalse {Q : Int32 → Ix → Lx → Prop} {v : Int32} {I : Ix} {L : Lx} {c : Nat} (hc : c ≤ 40) (e : I 85 0 = nI c) (hj : ∀ j, j < c → ∃ d t : Nat, 1 ≤ d ∧ d ≤ 60 ∧ I 86 j = nI d ∧ t < 10 ∧ I 87 j = nI t) : ∀ (m i k : Nat), i + m = c → Q (nI (k + jcnt (fun j => cnB I v j && flB I j) i m)) I L → wpX6_countFalse_h5 53 Q v (nI k) (nI i) I L := by
  intro m
  induction m with
  | zero =>
    intro i k hi h
    refine wpX6_countFalse_h5_fold ⟨fun _ => h, fun q => absurd ?_ q⟩
    rw [e]; exact (nI_leI (by omega) (by omega)).mpr (by omega)
  | succ m ih =>
    intro i k hi h
    obtain ⟨d, t, hd1, hd, ed, ht, et⟩ := hj i (by omega)
    refine wpX6_countFalse_h5_fold ⟨fun q => ?_, fun _ => sp_X6_counts (by omega) ⟨fun q => ?_, fun q => sp_X6_isFalse (by omega) hd1 hd ed ht et ⟨fun q2 => ?_, fun q2 => ?_⟩⟩⟩
    · rw [e] at q; exact absurd ((nI_leI (by omega) (by omega)).mp q) (by omega)
    · rw [nI_inc]
      refine ih (i + 1) k (by omega) ?_
      simpa [jcnt, q] using h
    · rw [nI_inc]
      refine ih (i + 1) k (by omega) ?_
      simpa [jcnt, q, q2] using h
    · rw [nI_inc, nI_inc]
      refine ih (i + 1) (k + 1) (by omega) ?_
      simpa [jcnt, q, q2, Nat.add_assoc] using h
theorem lp_countOpen {Q : Int32 → Ix → Lx → Prop} {v : Int32} {I : Ix} {L : Lx} {c : Nat} (hc : c ≤ 40) (e : I 85 0 = nI c) : ∀ (m i k : Nat), i + m = c → Q (nI (k + jcnt (fun j => cnB I v j && opB I j) i m)) I L → wpX6_countOpen_h5 53 Q v (nI k) (nI i) I L := by
  intro m
  induction m with
  | zero =>
    intro i k hi h
    refine wpX6_countOpen_h5_fold ⟨fun _ => h, fun q => absurd ?_ q⟩
    rw [e]; exact (nI_leI (by omega) (by omega)).mpr (by omega)
  | succ m ih =>
    intro i k hi h
    refine wpX6_countOpen_h5_fold ⟨fun q => ?_, fun _ => sp_X6_counts (by omega) ⟨fun q => ?_, fun q => ⟨vp_in_nI (by omega) (by decide), fun q2 => ?_, fun q2 => ?_⟩⟩⟩
    · rw [e] at q; exact absurd ((nI_leI (by omega) (by omega)).mp q) (by omega)
    · rw [nI_inc]
      refine ih (i + 1) k (by omega) ?_
      simpa [jcnt, q] using h
    · rw [nI_inc]
      refine ih (i + 1) k (by omega) ?_
      rw [nI_clamp (by omega)] at q2
      have o : opB I i = false := decide_eq_false (fun w => w q2)
      simpa [jcnt, q, o] using h
    · rw [nI_inc, nI_inc]
      refine ih (i + 1) (k + 1) (by omega) ?_
      rw [nI_clamp (by omega)] at q2
      have o : opB I i = true := decide_eq_true q2
      simpa [jcnt, q, o, Nat.add_assoc] using h
theorem lp_firstFalse {Q : Int32 → Ix → Lx → Prop} {v : Int32} {I : Ix} {L : Lx} {c : Nat} (hc : c ≤ 40) (e : I 85 0 = nI c) (hj : ∀ j, j < c → ∃ d t : Nat, 1 ≤ d ∧ d ≤ 60 ∧ I 86 j = nI d ∧ t < 10 ∧ I 87 j = nI t) : ∀ (m i : Nat), i + m = c → Q (jfst (fun j => cnB I v j && flB I j) i m) I L → wpX6_firstFalse_h2 53 Q v (nI i) I L := by
  intro m
  induction m with
  | zero =>
    intro i hi h
    refine wpX6_firstFalse_h2_fold ⟨fun _ => h, fun q => absurd ?_ q⟩
    rw [e]; exact (nI_leI (by omega) (by omega)).mpr (by omega)
  | succ m ih =>
    intro i hi h
    obtain ⟨d, t, hd1, hd, ed, ht, et⟩ := hj i (by omega)
    refine wpX6_firstFalse_h2_fold ⟨fun q => ?_, fun _ => sp_X6_counts (by omega) ⟨fun q => ?_, fun q => sp_X6_isFalse (by omega) hd1 hd ed ht et ⟨fun q2 => ?_, fun q2 => ?_⟩⟩⟩
    · rw [e] at q; exact absurd ((nI_leI (by omega) (by omega)).mp q) (by omega)
    · rw [nI_inc]
      refine ih (i + 1) (by omega) ?_
      simpa [jfst, q] using h
    · rw [nI_inc]
      refine ih (i + 1) (by omega) ?_
      simpa [jfst, q, q2] using h
    · simpa [jfst, q, q2] using h

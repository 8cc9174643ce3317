def dcB (I : Ix) (v : Int32) (j i : Nat) : Bool := cnB I v i && decide (I 86 i = I 86 j ∧ I 87 i = I 87 j ∧ ¬ I 88 i = I 88 j)
def dbB (I : Ix) (v : Int32) (j : Nat) : Bool := jany (dcB I v j) 0 j
theorem lp_contra {Q : Bool → Ix → Lx → Prop} {v : Int32} {I : Ix} {L : Lx} {j : Nat} (hj : j < 40) : ∀ (m i : Nat), i + m = j → Q (jany (dcB I v j) i m) I L → wpX6_contradictsEarlier_h2 Q (nI j) v (nI i) I L := by
  intro m
  induction m with
  | zero =>
    intro i hi h
    exact wpX6_contradictsEarlier_h2_fold ⟨fun _ => h, fun q => absurd ((nI_leI (by omega) (by omega)).mpr (by omega)) q⟩
  | succ m ih =>
    intro i hi h
    have h1 : vp_in (nI i) 40 := vp_in_nI (by omega) (by decide)
    have h2 : vp_in (nI j) 40 := vp_in_nI (by omega) (by decide)
    refine wpX6_contradictsEarlier_h2_fold ⟨fun q => absurd ((nI_leI (by omega) (by omega)).mp q) (by omega), fun _ => ⟨h1, h2, fun q => ?_, fun q => ⟨h1, h2, fun q2 => ?_, fun q2 => ?_⟩⟩⟩
    · rw [nI_clamp (by omega), nI_clamp (by omega)] at q
      refine ⟨fun _ => ?_, fun w => absurd rfl w⟩
      rw [nI_inc]
      refine ih (i + 1) (by omega) ?_
      simpa [jany, dcB, q] using h
    · rw [nI_clamp (by omega), nI_clamp (by omega)] at q2
      refine ⟨fun _ => ?_, fun w => absurd rfl w⟩
      rw [nI_inc]
      refine ih (i + 1) (by omega) ?_
      simpa [jany, dcB, q2] using h
    · rw [nI_clamp (by omega), nI_clamp (by omega)] at q q2
      refine ⟨fun w => absurd w (by decide), fun _ => sp_X6_counts (by omega) ⟨fun q3 => ?_, fun q3 => ⟨h1, h2, fun q4 => ?_, fun q4 => ?_⟩⟩⟩
      · rw [nI_inc]
        refine ih (i + 1) (by omega) ?_
        simpa [jany, dcB, q3] using h
      · rw [nI_clamp (by omega), nI_clamp (by omega)] at q4
        rw [nI_inc]
        refine ih (i + 1) (by omega) ?_
        simpa [jany, dcB, q4] using h
      · rw [nI_clamp (by omega), nI_clamp (by omega)] at q4
        simpa [jany, dcB, q, q2, q3, q4] using h
theorem sp_contra {Q : Bool → Ix → Lx → Prop} {v : Int32} {I : Ix} {L : Lx} {j : Nat} (hj : j < 40) (h : Q (dbB I v j) I L) : wpX6_contradictsEarlier (nI j) v I L Q := by
  have := lp_contra hj j 0 (Nat.zero_add j) h
  rw [show nI 0 = 0 from by decide] at this
  exact this
theorem lp_firstDouble {Q : Int32 → Ix → Lx → Prop} {v : Int32} {I : Ix} {L : Lx} {c : Nat} (hc : c ≤ 40) (e : I 85 0 = nI c) : ∀ (m i : Nat), i + m = c → Q (jfst (fun j => cnB I v j && dbB I v j) i m) I L → wpX6_firstDouble_h2 Q v (nI i) I L := by
  intro m
  induction m with
  | zero =>
    intro i hi h
    refine wpX6_firstDouble_h2_fold ⟨fun _ => h, fun q => absurd ?_ q⟩
    rw [e]; exact (nI_leI (by omega) (by omega)).mpr (by omega)
  | succ m ih =>
    intro i hi h
    refine wpX6_firstDouble_h2_fold ⟨fun q => ?_, fun _ => sp_X6_counts (by omega) ⟨fun q => ?_, fun q => sp_contra (by omega) ⟨fun q2 => ?_, fun q2 => ?_⟩⟩⟩
    · rw [e] at q; exact absurd ((nI_leI (by omega) (by omega)).mp q) (by omega)
    · rw [nI_inc]
      refine ih (i + 1) (by omega) ?_
      simpa [jfst, q] using h
    · rw [nI_inc]
      refine ih (i + 1) (by omega) ?_
      simpa [jfst, q, q2] using h
    · simpa [jfst, q, q2] using h

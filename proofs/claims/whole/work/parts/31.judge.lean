/-- a tale counts at the time v; it is false; it is open -/
def cnB (I : Ix) (v : Int32) (j : Nat) : Bool := decide (¬ v < I 89 j ∧ (I 90 j = -1 ∨ ¬ I 90 j ≤ v))
def flB (I : Ix) (j : Nat) : Bool := decide (¬ I 53 0 < I 86 j ∧ ¬ I (53 + 8) (10 * ((I 86 j).toNatClampNeg - 1) + (I 87 j).toNatClampNeg) = I 88 j)
def opB (I : Ix) (j : Nat) : Bool := decide (¬ I 86 j ≤ I 53 0)
theorem sp_X6_counts {j : Nat} {v : Int32} {I : Ix} {L : Lx} {Q : Bool → Ix → Lx → Prop} (hj : j < 40) (h : Q (cnB I v j) I L) : wpX6_counts (nI j) v I L Q := by
  unfold wpX6_counts wpX6_counts_b30
  have hin : vp_in (nI j) 40 := vp_in_nI hj (by decide)
  rw [nI_clamp (by omega)]
  unfold cnB at h
  refine ⟨hin, fun q => ?_, fun q => ⟨hin, fun q2 => ?_, fun q2 => ⟨hin, fun q3 => ?_, fun q3 => ?_⟩⟩⟩
  · rw [decide_eq_false (fun w => w.1 q)] at h; exact h
  · rw [decide_eq_true ⟨q, Or.inl q2⟩] at h; exact h
  · rw [decide_eq_false (fun w => w.2.elim q2 (fun x => x q3))] at h; exact h
  · rw [decide_eq_true ⟨q, Or.inr q3⟩] at h; exact h
theorem sp_X12_counts {j : Nat} {v : Int32} {I : Ix} {L : Lx} {Q : Bool → Ix → Lx → Prop} (hj : j < 40) (h1 : I 89 j = I 167 j) (h2 : I 90 j = I 168 j) (h3 : I 168 j = -1 ∨ ∃ t : Nat, t ≤ 100000 ∧ I 168 j = nI t) (h : Q (cnB I v j) I L) : wpX12_counts (nI j) v I L Q := by
  unfold wpX12_counts wpX12_counts_b29
  have hin : vp_in (nI j) 40 := vp_in_nI hj (by decide)
  rw [nI_clamp (by omega), ← h1, ← h2]
  rw [← h2] at h3
  unfold cnB at h
  have h4 : I 90 j < 0 ↔ I 90 j = -1 := by
    refine ⟨fun q => ?_, fun q => by rw [q]; decide⟩
    rcases h3 with w | ⟨t, ht, w⟩
    · exact w
    · rw [w] at q; exact absurd ((nI_ltI (b := 0) (by omega) (by decide)).mp q) (by omega)
  refine ⟨hin, fun q => ?_, fun q => ⟨hin, fun q2 => ?_, fun q2 => ⟨hin, fun q3 => ?_, fun q3 => ?_⟩⟩⟩
  · rw [decide_eq_false (fun w => w.1 q)] at h; exact h
  · rw [decide_eq_true ⟨q, Or.inl (h4.mp q2)⟩] at h; exact h
  · rw [decide_eq_false (fun w => w.2.elim (fun x => q2 (h4.mpr x)) (fun x => x q3))] at h; exact h
  · rw [decide_eq_true ⟨q, Or.inr q3⟩] at h; exact h
theorem sp_X6_isFalse {j d t : Nat} {I : Ix} {L : Lx} {Q : Bool → Ix → Lx → Prop} (hj : j < 40) (hd1 : 1 ≤ d) (hd : d ≤ 60) (ed : I 86 j = nI d) (ht : t < 10) (et : I 87 j = nI t) (h : Q (flB I j) I L) : wpX6_isFalse 53 (nI j) I L Q := by
  unfold wpX6_isFalse
  have hin : vp_in (nI j) 40 := vp_in_nI hj (by decide)
  rw [nI_clamp (by omega)]
  unfold flB at h
  obtain ⟨e, rfl⟩ : ∃ e, d = e + 1 := ⟨d - 1, by omega⟩
  rw [ed, et, nI_clamp (by omega), nI_clamp (by omega), Nat.add_sub_cancel] at h
  rw [ed, et]
  refine ⟨hin, fun q => ?_, fun q => ⟨hin, hin, sp_behind (by omega) ht ⟨hin, fun q2 => ?_, fun q2 => ?_⟩⟩⟩
  · rw [decide_eq_false (fun w => w.1 q)] at h; exact h
  · rw [decide_eq_false (fun w => w.2 q2)] at h; exact h
  · rw [decide_eq_true ⟨q, q2⟩] at h; exact h
theorem sp_X12_isFalse {j d t dy : Nat} {I : Ix} {L : Lx} {Q : Bool → Ix → Lx → Prop} (hj : j < 40) (hd1 : 1 ≤ d) (hd : d ≤ 60) (ed : I 86 j = nI d) (ht : t < 10) (et : I 87 j = nI t) (h1 : I 86 j = I 164 j) (h2 : I 87 j = I 165 j) (h3 : I 88 j = I 166 j) (hy : dy ≤ 10000) (y1 : I 53 0 = nI dy) (y2 : I 120 57 = nI dy) (hk : ∀ e, e < 60 → e < dy → I (53 + 8) (10 * e + t) = I 150 (10 * (e + 1) + t)) (h : Q (flB I j) I L) : wpX12_isFalse (nI j) I L Q := by
  unfold wpX12_isFalse
  have hin : vp_in (nI j) 40 := vp_in_nI hj (by decide)
  rw [nI_clamp (by omega), ← h1, ← h2, ← h3]
  unfold flB at h
  obtain ⟨e, rfl⟩ : ∃ e, d = e + 1 := ⟨d - 1, by omega⟩
  have e1 : 10 * nI (e + 1) + nI t = nI (10 * (e + 1) + t) := by
    rw [show (10 : Int32) = nI 10 from by decide, pk_mul, nI_add]
  rw [ed, et, nI_clamp (by omega), nI_clamp (by omega), Nat.add_sub_cancel] at h
  rw [ed, et, e1, nI_clamp (by omega), y2]
  rw [y1] at h
  refine ⟨hin, fun q => ?_, fun q => ?_⟩
  · rw [decide_eq_false (fun w => w.1 q)] at h; exact h
  · have := mt (nI_ltI (by omega) (by omega)).mpr q
    rw [hk e (by omega) (by omega)] at h
    refine ⟨hin, hin, vp_in_nI (by omega) (by decide), hin, fun q2 => ?_, fun q2 => ?_⟩
    · rw [decide_eq_false (fun w => w.2 q2)] at h; exact h
    · rw [decide_eq_true ⟨q, q2⟩] at h; exact h

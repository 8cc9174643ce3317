theorem lp_isDouble {Q : Bool → Ix → Lx → Prop} {v : Int32} {I : Ix} {L : Lx} {j : Nat} (hj : j < 40) (hr : ∀ i, i ≤ j → I 86 i = I 164 i ∧ I 87 i = I 165 i ∧ I 88 i = I 166 i ∧ I 89 i = I 167 i ∧ I 90 i = I 168 i ∧ (I 168 i = -1 ∨ ∃ t : Nat, t ≤ 100000 ∧ I 168 i = nI t)) : ∀ (m i : Nat) (b : Bool), i + m = j → Q (b || jany (dcB I v j) i m) I L → wpX12_isDouble_h5 Q (nI j) v (b2i b) (nI i) I L := by
  intro m
  induction m with
  | zero =>
    intro i b hi h
    refine wpX12_isDouble_h5_fold ⟨fun _ => ⟨b, rfl, by simpa [jany] using h⟩, fun q => absurd ((nI_leI (by omega) (by omega)).mpr (by omega)) q⟩
  | succ m ih =>
    intro i b hi h
    have h1 : vp_in (nI i) 40 := vp_in_nI (by omega) (by decide)
    have h2 : vp_in (nI j) 40 := vp_in_nI (by omega) (by decide)
    obtain ⟨r1, r2, r3, r4, r5, r6⟩ := hr i (by omega)
    obtain ⟨s1, s2, s3, s4, s5, s6⟩ := hr j (by omega)
    have c1 : (nI i).toNatClampNeg = i := nI_clamp (by omega)
    have c2 : (nI j).toNatClampNeg = j := nI_clamp (by omega)
    refine wpX12_isDouble_h5_fold ⟨fun q => absurd ((nI_leI (by omega) (by omega)).mp q) (by omega), fun _ => ⟨fun q => ?_, fun q => ?_⟩⟩
    · cases b with
      | false => exact absurd rfl q
      | true =>
        have := ih (i + 1) true (by omega) (by simpa using h)
        rw [← nI_inc] at this
        exact this
    · cases b with
      | true => exact absurd q (by decide)
      | false =>
        have k0 : jany (dcB I v j) (i + 1) m = (false || jany (dcB I v j) (i + 1) m) := (Bool.false_or _).symm
        have hno : dcB I v j i = false → wpX12_isDouble_h5 Q (nI j) v 0 (nI i + 1) I L := fun w => by
          rw [nI_inc]
          exact ih (i + 1) false (by omega) (by simpa [jany, w] using h)
        have hyes : dcB I v j i = true → wpX12_isDouble_h5 Q (nI j) v 1 (nI i + 1) I L := fun w => by
          rw [nI_inc]
          exact ih (i + 1) true (by omega) (by simpa [jany, w] using h)
        refine sp_X12_counts (by omega) r4 r5 r6 ⟨fun q3 => hno (by simp [dcB, q3]), fun q3 => ⟨h1, h2, ?_⟩⟩
        rw [c1, c2, ← r1, ← r2, ← r3, ← s1, ← s2, ← s3]
        exact ⟨fun w => hno (by simp [dcB, w]), fun w => ⟨h1, h2, fun w2 => hno (by simp [dcB, w2]), fun w2 => ⟨h1, h2, fun w3 => hno (by simp [dcB, w3]), fun w3 => hyes (by simp [dcB, q3, w, w2, w3])⟩⟩⟩
theorem sp_isDouble {Q : Bool → Ix → Lx → Prop} {v : Int32} {I : Ix} {L : Lx} {j : Nat} (hj : j < 40) (hr : ∀ i, i ≤ j → I 86 i = I 164 i ∧ I 87 i = I 165 i ∧ I 88 i = I 166 i ∧ I 89 i = I 167 i ∧ I 90 i = I 168 i ∧ (I 168 i = -1 ∨ ∃ t : Nat, t ≤ 100000 ∧ I 168 i = nI t)) (h : Q (dbB I v j) I L) : wpX12_isDouble (nI j) v I L Q := by
  have := lp_isDouble hj hr (Q := Q) (v := v) (L := L) j 0 false (Nat.zero_add j) (by rw [Bool.false_or]; exact h)
  rw [show nI 0 = 0 from by decide] at this
  exact this
theorem lp_judge {Q : Int32 → Ix → Lx → Prop} {v1 v : Int32} {I : Ix} {L : Lx} {c : Nat} {f : Nat → Bool} (hc : c ≤ 40) (e : I 120 93 = nI c) (hb : ∀ j, j < c → ∀ (P19 : Int32 → Int32 → Int32 → Int32 → Int32 → Ix → Lx → Prop) (k v4 : Int32), (f j = true → wpX12_judge_b92 Q P19 v1 v k v4 (nI j) 1 I L) → (f j = false → wpX12_judge_b92 Q P19 v1 v k v4 (nI j) 0 I L) → wpX12_judge_l19 Q P19 v1 v k v4 (nI j) I L) : ∀ (m i k : Nat) (v4 : Int32), i + m = c → (v4 = -1 ∨ 0 ≤ v4) → (2 ≤ v1 → Q (if v4 = -1 then jfst f i m else v4) I L) → (¬ 2 ≤ v1 → Q (nI (k + jcnt f i m)) I L) → wpX12_judge_h19 Q v1 v (nI k) v4 (nI i) I L := by
  intro m
  induction m with
  | zero =>
    intro i k v4 hi hv g1 g2
    refine wpX12_judge_h19_fold ⟨fun _ => ⟨fun q => ?_, fun q => g2 q⟩, fun q => absurd ?_ q⟩
    · have := g1 q
      by_cases w : v4 = -1
      · rw [if_pos w] at this; rw [w]; exact this
      · rw [if_neg w] at this; exact this
    · rw [e]; exact (nI_leI (by omega) (by omega)).mpr (by omega)
  | succ m ih =>
    intro i k v4 hi hv g1 g2
    refine wpX12_judge_h19_fold (hb i (by omega) _ _ _ (fun q => ⟨fun _ => ⟨fun w => ?_, fun w => ?_⟩, fun w => absurd w (by decide)⟩) (fun q => ⟨fun w => absurd rfl w, fun _ => ?_⟩))
    · rw [nI_inc, nI_inc]
      have w1 : ¬ v4 = -1 := fun x => by rw [x] at w; exact absurd w (by decide)
      refine ih (i + 1) (k + 1) v4 (by omega) hv (fun z => ?_) (fun z => ?_)
      · have := g1 z; rw [if_neg w1] at this ⊢; exact this
      · have := g2 z; simpa [jcnt, q, Nat.add_assoc] using this
    · rw [nI_inc, nI_inc]
      have w1 : v4 = -1 := hv.elim id (fun x => absurd x w)
      have w2 : (0 : Int32) ≤ nI i := (nI_leI (a := 0) (by decide) (by omega)).mpr (by omega)
      have w3 : ¬ nI i = -1 := fun x => by rw [x] at w2; exact absurd w2 (by decide)
      refine ih (i + 1) (k + 1) (nI i) (by omega) (Or.inr w2) (fun z => ?_) (fun z => ?_)
      · have := g1 z; rw [if_pos w1] at this; rw [if_neg w3]; simpa [jfst, q] using this
      · have := g2 z; simpa [jcnt, q, Nat.add_assoc] using this
    · rw [nI_inc]
      refine ih (i + 1) k v4 (by omega) hv (fun z => ?_) (fun z => ?_)
      · have := g1 z; simpa [jfst, q] using this
      · have := g2 z; simpa [jcnt, q] using this

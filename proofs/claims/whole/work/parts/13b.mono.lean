abbrev wsI_X2_endDay (o0 : Nat) : List Nat := [o0 + 8]
abbrev wsL_X2_endDay (o0 : Nat) : List Nat := []
abbrev fsI_X2_endDay (o0 : Nat) : List (Nat × Nat) := [(o0, 0)]
abbrev fsL_X2_endDay (o0 : Nat) : List (Nat × Nat) := []
set_option maxRecDepth 10000 in
theorem mnX2_endDay {o0 : Nat} {I : Ix} {L : Lx} {Q Q' : Ix → Lx → Prop} (hQ : ∀ (I1 : Ix) (L1 : Lx), FrI (wsI_X2_endDay o0) (fsI_X2_endDay o0) I I1 → FrL (wsL_X2_endDay o0) (fsL_X2_endDay o0) L L1 → Q I1 L1 → Q' I1 L1) (h : wpX2_endDay o0 I L Q) : wpX2_endDay o0 I L Q' := by
  have hF : FrI (wsI_X2_endDay o0) (fsI_X2_endDay o0) I I := FrI.rf
  have hL : FrL (wsL_X2_endDay o0) (fsL_X2_endDay o0) L L := FrL.rf
  unfold wpX2_endDay at h ⊢
  intro I1 eI1
  have h := h I1 eI1
  have hF := hF.pf eI1 (by simp)
  refine ⟨fun hc => ?_, fun hc => ?_⟩
  · have h := h.1 hc
    exact hQ _ _ hF hL h
  · have h := h.2 hc
    refine ⟨h.1, h.2.1, ?_⟩
    have h := h.2.2
    intro I2 eI2
    have h := h I2 eI2
    have hF := hF.up eI2 (by simp)
    exact hQ _ _ hF hL h
abbrev wsI_X0_wearDown (o1 : Nat) : List Nat := [o1 + 2, o1 + 5, o1 + 1]
abbrev wsL_X0_wearDown (o1 : Nat) : List Nat := []
abbrev fsI_X0_wearDown (o1 : Nat) : List (Nat × Nat) := []
abbrev fsL_X0_wearDown (o1 : Nat) : List (Nat × Nat) := []
set_option maxRecDepth 10000 in
theorem mnX0_wearDown {o1 : Nat} {a2 : Int32} {a3 : Int32} {I : Ix} {L : Lx} {Q Q' : Ix → Lx → Prop} (hQ : ∀ (I1 : Ix) (L1 : Lx), FrI (wsI_X0_wearDown o1) (fsI_X0_wearDown o1) I I1 → FrL (wsL_X0_wearDown o1) (fsL_X0_wearDown o1) L L1 → Q I1 L1 → Q' I1 L1) (h : wpX0_wearDown o1 a2 a3 I L Q) : wpX0_wearDown o1 a2 a3 I L Q' := by
  have hF : FrI (wsI_X0_wearDown o1) (fsI_X0_wearDown o1) I I := FrI.rf
  have hL : FrL (wsL_X0_wearDown o1) (fsL_X0_wearDown o1) L L := FrL.rf
  unfold wpX0_wearDown at h ⊢
  refine ⟨h.1, ?_⟩
  have h := h.2
  refine ⟨h.1, ?_⟩
  have h := h.2
  refine ⟨h.1, ?_⟩
  have h := h.2
  intro I1 eI1
  have h := h I1 eI1
  have hF := hF.pw eI1 (by simp)
  refine ⟨h.1, ?_⟩
  have h := h.2
  refine ⟨fun hc => ?_, fun hc => ?_⟩
  · have h := h.1 hc
    exact hQ _ _ hF hL h
  · have h := h.2 hc
    refine ⟨fun hc => ?_, fun hc => ?_⟩
    · have h := h.1 hc
      exact hQ _ _ hF hL h
    · have h := h.2 hc
      refine ⟨h.1, ?_⟩
      have h := h.2
      intro I2 eI2
      have h := h I2 eI2
      have hF := hF.pw eI2 (by simp)
      refine ⟨h.1, ?_⟩
      have h := h.2
      intro I3 eI3
      have h := h I3 eI3
      have hF := hF.pw eI3 (by simp)
      exact hQ _ _ hF hL h
abbrev wsI_X0_use (o1 : Nat) : List Nat := [o1 + 7, o1 + 2, o1 + 5, o1 + 1]
abbrev wsL_X0_use (o1 : Nat) : List Nat := []
abbrev fsI_X0_use (o1 : Nat) : List (Nat × Nat) := []
abbrev fsL_X0_use (o1 : Nat) : List (Nat × Nat) := []
set_option maxRecDepth 10000 in
theorem mnX0_use_l29 {o1 : Nat} {I0 : Ix} {L0 : Lx} {Q Q' : Int32 → Ix → Lx → Prop} {P4 P4' : Int32 → Int32 → Ix → Lx → Prop} {P29 P29' : Int32 → Int32 → Int32 → Int32 → Ix → Lx → Prop} (hQ : ∀ (r : Int32) (I1 : Ix) (L1 : Lx), FrI (wsI_X0_use o1) (fsI_X0_use o1) I0 I1 → FrL (wsL_X0_use o1) (fsL_X0_use o1) L0 L1 → Q r I1 L1 → Q' r I1 L1) (hP4 : ∀ (v2 : Int32) (v3 : Int32) (I1 : Ix) (L1 : Lx), FrI (wsI_X0_use o1) (fsI_X0_use o1) I0 I1 → FrL (wsL_X0_use o1) (fsL_X0_use o1) L0 L1 → P4 v2 v3 I1 L1 → P4' v2 v3 I1 L1) (hP29 : ∀ (v2 : Int32) (v3 : Int32) (v4 : Int32) (v5 : Int32) (I1 : Ix) (L1 : Lx), FrI (wsI_X0_use o1) (fsI_X0_use o1) I0 I1 → FrL (wsL_X0_use o1) (fsL_X0_use o1) L0 L1 → P29 v2 v3 v4 v5 I1 L1 → P29' v2 v3 v4 v5 I1 L1) {v2 : Int32} {v3 : Int32} {v4 : Int32} {v5 : Int32} {I : Ix} {L : Lx} (hF : FrI (wsI_X0_use o1) (fsI_X0_use o1) I0 I) (hL : FrL (wsL_X0_use o1) (fsL_X0_use o1) L0 L) (h : wpX0_use_l29 o1 Q P4 P29 v2 v3 v4 v5 I L) : wpX0_use_l29 o1 Q' P4' P29' v2 v3 v4 v5 I L := by
  unfold wpX0_use_l29 at h ⊢
  refine ⟨fun hc => ?_, fun hc => ?_⟩
  · have h := h.1 hc
    exact hP4 _ _ _ _ hF hL h
  · have h := h.2 hc
    refine ⟨h.1, ?_⟩
    have h := h.2
    refine ⟨fun hc => ?_, fun hc => ?_⟩
    · have h := h.1 hc
      exact hP29 _ _ _ _ _ _ hF hL h
    · have h := h.2 hc
      refine ⟨h.1, ?_⟩
      have h := h.2
      refine ⟨h.1, ?_⟩
      have h := h.2
      refine ⟨h.1, ?_⟩
      have h := h.2
      refine ⟨h.1, ?_⟩
      have h := h.2
      intro I1 eI1
      have h := h I1 eI1
      have hF := hF.pw eI1 (by simp)
      refine mnX0_wearDown (fun I2 L3 hf hl h => ?_) h
      have hF := hF.tr hf (by intro k hk; first | (simp only [List.mem_cons, List.not_mem_nil, or_false] at hk ⊢; omega) | (simp at hk; done) | (simp at hk ⊢; omega)) (by intro q hq; obtain ⟨k, j⟩ := q; first | (simp only [List.mem_cons, List.not_mem_nil, or_false, Prod.mk.injEq] at hq ⊢; omega) | (simp at hq; done))
      have hL := hL.tr hl (by intro k hk; first | (simp only [List.mem_cons, List.not_mem_nil, or_false] at hk ⊢; omega) | (simp at hk; done) | (simp at hk ⊢; omega)) (by intro q hq; obtain ⟨k, j⟩ := q; first | (simp only [List.mem_cons, List.not_mem_nil, or_false, Prod.mk.injEq] at hq ⊢; omega) | (simp at hq; done))
      exact hP29 _ _ _ _ _ _ hF hL h
set_option maxRecDepth 10000 in
theorem mnX0_use_h29 {o1 : Nat} {I0 : Ix} {L0 : Lx} {Q Q' : Int32 → Ix → Lx → Prop} {P4 P4' : Int32 → Int32 → Ix → Lx → Prop} (hQ : ∀ (r : Int32) (I1 : Ix) (L1 : Lx), FrI (wsI_X0_use o1) (fsI_X0_use o1) I0 I1 → FrL (wsL_X0_use o1) (fsL_X0_use o1) L0 L1 → Q r I1 L1 → Q' r I1 L1) (hP4 : ∀ (v2 : Int32) (v3 : Int32) (I1 : Ix) (L1 : Lx), FrI (wsI_X0_use o1) (fsI_X0_use o1) I0 I1 → FrL (wsL_X0_use o1) (fsL_X0_use o1) L0 L1 → P4 v2 v3 I1 L1 → P4' v2 v3 I1 L1) {v2 : Int32} {v3 : Int32} {v4 : Int32} {v5 : Int32} {I : Ix} {L : Lx} (hF : FrI (wsI_X0_use o1) (fsI_X0_use o1) I0 I) (hL : FrL (wsL_X0_use o1) (fsL_X0_use o1) L0 L) (h : wpX0_use_h29 o1 Q P4 v2 v3 v4 v5 I L) : wpX0_use_h29 o1 Q' P4' v2 v3 v4 v5 I L := by
  unfold wpX0_use_h29 at h
  refine Lfp.ind (P := fun z => FrI (wsI_X0_use o1) (fsI_X0_use o1) I0 z.2.2.2.2.1 → FrL (wsL_X0_use o1) (fsL_X0_use o1) L0 z.2.2.2.2.2 → wpX0_use_h29 o1 Q' P4' z.1 z.2.1 z.2.2.1 z.2.2.2.1 z.2.2.2.2.1 z.2.2.2.2.2) ?_ h hF hL
  intro z P' hP' h hF hL
  obtain ⟨v2, v3, v4, v5, I, L⟩ := z
  exact wpX0_use_h29_fold (mnX0_use_l29 hQ hP4 (fun v2 v3 v4 v5 I L hF hL h9 => hP' (v2, v3, v4, v5, I, L) h9 hF hL) hF hL h)
set_option maxRecDepth 10000 in
theorem mnX0_use_l4 {o1 : Nat} {I0 : Ix} {L0 : Lx} {Q Q' : Int32 → Ix → Lx → Prop} {P4 P4' : Int32 → Int32 → Ix → Lx → Prop} (hQ : ∀ (r : Int32) (I1 : Ix) (L1 : Lx), FrI (wsI_X0_use o1) (fsI_X0_use o1) I0 I1 → FrL (wsL_X0_use o1) (fsL_X0_use o1) L0 L1 → Q r I1 L1 → Q' r I1 L1) (hP4 : ∀ (v2 : Int32) (v3 : Int32) (I1 : Ix) (L1 : Lx), FrI (wsI_X0_use o1) (fsI_X0_use o1) I0 I1 → FrL (wsL_X0_use o1) (fsL_X0_use o1) L0 L1 → P4 v2 v3 I1 L1 → P4' v2 v3 I1 L1) {v2 : Int32} {v3 : Int32} {I : Ix} {L : Lx} (hF : FrI (wsI_X0_use o1) (fsI_X0_use o1) I0 I) (hL : FrL (wsL_X0_use o1) (fsL_X0_use o1) L0 L) (h : wpX0_use_l4 o1 Q P4 v2 v3 I L) : wpX0_use_l4 o1 Q' P4' v2 v3 I L := by
  unfold wpX0_use_l4 at h ⊢
  refine ⟨fun hc => ?_, fun hc => ?_⟩
  · have h := h.1 hc
    exact hQ _ _ _ hF hL h
  · have h := h.2 hc
    refine ⟨h.1, ?_⟩
    have h := h.2
    exact mnX0_use_h29 hQ hP4 hF hL h
set_option maxRecDepth 10000 in
theorem mnX0_use_h4 {o1 : Nat} {I0 : Ix} {L0 : Lx} {Q Q' : Int32 → Ix → Lx → Prop} (hQ : ∀ (r : Int32) (I1 : Ix) (L1 : Lx), FrI (wsI_X0_use o1) (fsI_X0_use o1) I0 I1 → FrL (wsL_X0_use o1) (fsL_X0_use o1) L0 L1 → Q r I1 L1 → Q' r I1 L1) {v2 : Int32} {v3 : Int32} {I : Ix} {L : Lx} (hF : FrI (wsI_X0_use o1) (fsI_X0_use o1) I0 I) (hL : FrL (wsL_X0_use o1) (fsL_X0_use o1) L0 L) (h : wpX0_use_h4 o1 Q v2 v3 I L) : wpX0_use_h4 o1 Q' v2 v3 I L := by
  unfold wpX0_use_h4 at h
  refine Lfp.ind (P := fun z => FrI (wsI_X0_use o1) (fsI_X0_use o1) I0 z.2.2.1 → FrL (wsL_X0_use o1) (fsL_X0_use o1) L0 z.2.2.2 → wpX0_use_h4 o1 Q' z.1 z.2.1 z.2.2.1 z.2.2.2) ?_ h hF hL
  intro z P' hP' h hF hL
  obtain ⟨v2, v3, I, L⟩ := z
  exact wpX0_use_h4_fold (mnX0_use_l4 hQ (fun v2 v3 I L hF hL h9 => hP' (v2, v3, I, L) h9 hF hL) hF hL h)
set_option maxRecDepth 10000 in
theorem mnX0_use {o1 : Nat} {I : Ix} {L : Lx} {Q Q' : Int32 → Ix → Lx → Prop} (hQ : ∀ (r : Int32) (I1 : Ix) (L1 : Lx), FrI (wsI_X0_use o1) (fsI_X0_use o1) I I1 → FrL (wsL_X0_use o1) (fsL_X0_use o1) L L1 → Q r I1 L1 → Q' r I1 L1) (h : wpX0_use o1 I L Q) : wpX0_use o1 I L Q' := by
  have hF : FrI (wsI_X0_use o1) (fsI_X0_use o1) I I := FrI.rf
  have hL : FrL (wsL_X0_use o1) (fsL_X0_use o1) L L := FrL.rf
  unfold wpX0_use at h ⊢
  exact mnX0_use_h4 hQ hF hL h
abbrev wsI_X0_mend (o1 : Nat) : List Nat := [o1 + 2]
abbrev wsL_X0_mend (o1 : Nat) : List Nat := []
abbrev fsI_X0_mend (o1 : Nat) : List (Nat × Nat) := []
abbrev fsL_X0_mend (o1 : Nat) : List (Nat × Nat) := []
set_option maxRecDepth 10000 in
theorem mnX0_mend_b46 {o1 : Nat} {I0 : Ix} {L0 : Lx} {Q Q' : Ix → Lx → Prop} {P2 P2' : Int32 → Ix → Lx → Prop} {P18 P18' : Int32 → Int32 → Int32 → Ix → Lx → Prop} (hQ : ∀ (I1 : Ix) (L1 : Lx), FrI (wsI_X0_mend o1) (fsI_X0_mend o1) I0 I1 → FrL (wsL_X0_mend o1) (fsL_X0_mend o1) L0 L1 → Q I1 L1 → Q' I1 L1) (hP2 : ∀ (v2 : Int32) (I1 : Ix) (L1 : Lx), FrI (wsI_X0_mend o1) (fsI_X0_mend o1) I0 I1 → FrL (wsL_X0_mend o1) (fsL_X0_mend o1) L0 L1 → P2 v2 I1 L1 → P2' v2 I1 L1) (hP18 : ∀ (v2 : Int32) (v3 : Int32) (v4 : Int32) (I1 : Ix) (L1 : Lx), FrI (wsI_X0_mend o1) (fsI_X0_mend o1) I0 I1 → FrL (wsL_X0_mend o1) (fsL_X0_mend o1) L0 L1 → P18 v2 v3 v4 I1 L1 → P18' v2 v3 v4 I1 L1) {v2 : Int32} {v3 : Int32} {v4 : Int32} {t0 : Int32} {I : Ix} {L : Lx} (hF : FrI (wsI_X0_mend o1) (fsI_X0_mend o1) I0 I) (hL : FrL (wsL_X0_mend o1) (fsL_X0_mend o1) L0 L) (h : wpX0_mend_b46 o1 Q P2 P18 v2 v3 v4 t0 I L) : wpX0_mend_b46 o1 Q' P2' P18' v2 v3 v4 t0 I L := by
  unfold wpX0_mend_b46 at h ⊢
  refine ⟨fun hc => ?_, fun hc => ?_⟩
  · have h := h.1 hc
    exact hP18 _ _ _ _ _ hF hL h
  · have h := h.2 hc
    refine ⟨fun hc => ?_, fun hc => ?_⟩
    · have h := h.1 hc
      exact hP18 _ _ _ _ _ hF hL h
    · have h := h.2 hc
      refine ⟨h.1, ?_⟩
      have h := h.2
      refine ⟨h.1, ?_⟩
      have h := h.2
      refine ⟨fun hc => ?_, fun hc => ?_⟩
      · have h := h.1 hc
        exact hP18 _ _ _ _ _ hF hL h
      · have h := h.2 hc
        exact hP18 _ _ _ _ _ hF hL h
set_option maxRecDepth 10000 in
theorem mnX0_mend_l18 {o1 : Nat} {I0 : Ix} {L0 : Lx} {Q Q' : Ix → Lx → Prop} {P2 P2' : Int32 → Ix → Lx → Prop} {P18 P18' : Int32 → Int32 → Int32 → Ix → Lx → Prop} (hQ : ∀ (I1 : Ix) (L1 : Lx), FrI (wsI_X0_mend o1) (fsI_X0_mend o1) I0 I1 → FrL (wsL_X0_mend o1) (fsL_X0_mend o1) L0 L1 → Q I1 L1 → Q' I1 L1) (hP2 : ∀ (v2 : Int32) (I1 : Ix) (L1 : Lx), FrI (wsI_X0_mend o1) (fsI_X0_mend o1) I0 I1 → FrL (wsL_X0_mend o1) (fsL_X0_mend o1) L0 L1 → P2 v2 I1 L1 → P2' v2 I1 L1) (hP18 : ∀ (v2 : Int32) (v3 : Int32) (v4 : Int32) (I1 : Ix) (L1 : Lx), FrI (wsI_X0_mend o1) (fsI_X0_mend o1) I0 I1 → FrL (wsL_X0_mend o1) (fsL_X0_mend o1) L0 L1 → P18 v2 v3 v4 I1 L1 → P18' v2 v3 v4 I1 L1) {v2 : Int32} {v3 : Int32} {v4 : Int32} {I : Ix} {L : Lx} (hF : FrI (wsI_X0_mend o1) (fsI_X0_mend o1) I0 I) (hL : FrL (wsL_X0_mend o1) (fsL_X0_mend o1) L0 L) (h : wpX0_mend_l18 o1 Q P2 P18 v2 v3 v4 I L) : wpX0_mend_l18 o1 Q' P2' P18' v2 v3 v4 I L := by
  unfold wpX0_mend_l18 at h ⊢
  refine ⟨fun hc => ?_, fun hc => ?_⟩
  · have h := h.1 hc
    refine ⟨fun hc => ?_, fun hc => ?_⟩
    · have h := h.1 hc
      exact hP2 _ _ _ hF hL h
    · have h := h.2 hc
      refine ⟨h.1, ?_⟩
      have h := h.2
      refine ⟨h.1, ?_⟩
      have h := h.2
      refine ⟨h.1, ?_⟩
      have h := h.2
      intro I1 eI1
      have h := h I1 eI1
      have hF := hF.pw eI1 (by simp)
      exact hP2 _ _ _ hF hL h
  · have h := h.2 hc
    refine ⟨h.1, ?_⟩
    have h := h.2
    refine ⟨fun hc => ?_, fun hc => ?_⟩
    · have h := h.1 hc
      exact mnX0_mend_b46 hQ hP2 hP18 hF hL h
    · have h := h.2 hc
      exact mnX0_mend_b46 hQ hP2 hP18 hF hL h
set_option maxRecDepth 10000 in
theorem mnX0_mend_h18 {o1 : Nat} {I0 : Ix} {L0 : Lx} {Q Q' : Ix → Lx → Prop} {P2 P2' : Int32 → Ix → Lx → Prop} (hQ : ∀ (I1 : Ix) (L1 : Lx), FrI (wsI_X0_mend o1) (fsI_X0_mend o1) I0 I1 → FrL (wsL_X0_mend o1) (fsL_X0_mend o1) L0 L1 → Q I1 L1 → Q' I1 L1) (hP2 : ∀ (v2 : Int32) (I1 : Ix) (L1 : Lx), FrI (wsI_X0_mend o1) (fsI_X0_mend o1) I0 I1 → FrL (wsL_X0_mend o1) (fsL_X0_mend o1) L0 L1 → P2 v2 I1 L1 → P2' v2 I1 L1) {v2 : Int32} {v3 : Int32} {v4 : Int32} {I : Ix} {L : Lx} (hF : FrI (wsI_X0_mend o1) (fsI_X0_mend o1) I0 I) (hL : FrL (wsL_X0_mend o1) (fsL_X0_mend o1) L0 L) (h : wpX0_mend_h18 o1 Q P2 v2 v3 v4 I L) : wpX0_mend_h18 o1 Q' P2' v2 v3 v4 I L := by
  unfold wpX0_mend_h18 at h
  refine Lfp.ind (P := fun z => FrI (wsI_X0_mend o1) (fsI_X0_mend o1) I0 z.2.2.2.1 → FrL (wsL_X0_mend o1) (fsL_X0_mend o1) L0 z.2.2.2.2 → wpX0_mend_h18 o1 Q' P2' z.1 z.2.1 z.2.2.1 z.2.2.2.1 z.2.2.2.2) ?_ h hF hL
  intro z P' hP' h hF hL
  obtain ⟨v2, v3, v4, I, L⟩ := z
  exact wpX0_mend_h18_fold (mnX0_mend_l18 hQ hP2 (fun v2 v3 v4 I L hF hL h9 => hP' (v2, v3, v4, I, L) h9 hF hL) hF hL h)
set_option maxRecDepth 10000 in
theorem mnX0_mend_l2 {o1 : Nat} {I0 : Ix} {L0 : Lx} {Q Q' : Ix → Lx → Prop} {P2 P2' : Int32 → Ix → Lx → Prop} (hQ : ∀ (I1 : Ix) (L1 : Lx), FrI (wsI_X0_mend o1) (fsI_X0_mend o1) I0 I1 → FrL (wsL_X0_mend o1) (fsL_X0_mend o1) L0 L1 → Q I1 L1 → Q' I1 L1) (hP2 : ∀ (v2 : Int32) (I1 : Ix) (L1 : Lx), FrI (wsI_X0_mend o1) (fsI_X0_mend o1) I0 I1 → FrL (wsL_X0_mend o1) (fsL_X0_mend o1) L0 L1 → P2 v2 I1 L1 → P2' v2 I1 L1) {v2 : Int32} {I : Ix} {L : Lx} (hF : FrI (wsI_X0_mend o1) (fsI_X0_mend o1) I0 I) (hL : FrL (wsL_X0_mend o1) (fsL_X0_mend o1) L0 L) (h : wpX0_mend_l2 o1 Q P2 v2 I L) : wpX0_mend_l2 o1 Q' P2' v2 I L := by
  unfold wpX0_mend_l2 at h ⊢
  refine ⟨fun hc => ?_, fun hc => ?_⟩
  · have h := h.1 hc
    exact hQ _ _ hF hL h
  · have h := h.2 hc
    exact mnX0_mend_h18 hQ hP2 hF hL h
set_option maxRecDepth 10000 in
theorem mnX0_mend_h2 {o1 : Nat} {I0 : Ix} {L0 : Lx} {Q Q' : Ix → Lx → Prop} (hQ : ∀ (I1 : Ix) (L1 : Lx), FrI (wsI_X0_mend o1) (fsI_X0_mend o1) I0 I1 → FrL (wsL_X0_mend o1) (fsL_X0_mend o1) L0 L1 → Q I1 L1 → Q' I1 L1) {v2 : Int32} {I : Ix} {L : Lx} (hF : FrI (wsI_X0_mend o1) (fsI_X0_mend o1) I0 I) (hL : FrL (wsL_X0_mend o1) (fsL_X0_mend o1) L0 L) (h : wpX0_mend_h2 o1 Q v2 I L) : wpX0_mend_h2 o1 Q' v2 I L := by
  unfold wpX0_mend_h2 at h
  refine Lfp.ind (P := fun z => FrI (wsI_X0_mend o1) (fsI_X0_mend o1) I0 z.2.1 → FrL (wsL_X0_mend o1) (fsL_X0_mend o1) L0 z.2.2 → wpX0_mend_h2 o1 Q' z.1 z.2.1 z.2.2) ?_ h hF hL
  intro z P' hP' h hF hL
  obtain ⟨v2, I, L⟩ := z
  exact wpX0_mend_h2_fold (mnX0_mend_l2 hQ (fun v2 I L hF hL h9 => hP' (v2, I, L) h9 hF hL) hF hL h)
set_option maxRecDepth 10000 in
theorem mnX0_mend {o1 : Nat} {I : Ix} {L : Lx} {Q Q' : Ix → Lx → Prop} (hQ : ∀ (I1 : Ix) (L1 : Lx), FrI (wsI_X0_mend o1) (fsI_X0_mend o1) I I1 → FrL (wsL_X0_mend o1) (fsL_X0_mend o1) L L1 → Q I1 L1 → Q' I1 L1) (h : wpX0_mend o1 I L Q) : wpX0_mend o1 I L Q' := by
  have hF : FrI (wsI_X0_mend o1) (fsI_X0_mend o1) I I := FrI.rf
  have hL : FrL (wsL_X0_mend o1) (fsL_X0_mend o1) L L := FrL.rf
  unfold wpX0_mend at h ⊢
  exact mnX0_mend_h2 hQ hF hL h
abbrev wsI_X0_live (o1 : Nat) : List Nat := [66, 67, o1 + 6, 63, 14, o1 + 3, o1 + 1, 68, 64, 65, o1 + 8, o1 + 7, o1 + 2, o1 + 5]
abbrev wsL_X0_live (o1 : Nat) : List Nat := []
abbrev fsI_X0_live (o1 : Nat) : List (Nat × Nat) := [(o1, 1), (o1, 2), (o1, 0)]
abbrev fsL_X0_live (o1 : Nat) : List (Nat × Nat) := []
set_option maxRecDepth 10000 in
theorem mnX0_live_b59 {o1 : Nat} {I0 : Ix} {L0 : Lx} {Q Q' : Int32 → Ix → Lx → Prop} (hQ : ∀ (r : Int32) (I1 : Ix) (L1 : Lx), FrI (wsI_X0_live o1) (fsI_X0_live o1) I0 I1 → FrL (wsL_X0_live o1) (fsL_X0_live o1) L0 L1 → Q r I1 L1 → Q' r I1 L1) {v2 : Int32} {v3 : Int32} {v4 : Int32} {I : Ix} {L : Lx} (hF : FrI (wsI_X0_live o1) (fsI_X0_live o1) I0 I) (hL : FrL (wsL_X0_live o1) (fsL_X0_live o1) L0 L) (h : wpX0_live_b59 o1 Q v2 v3 v4 I L) : wpX0_live_b59 o1 Q' v2 v3 v4 I L := by
  unfold wpX0_live_b59 at h ⊢
  refine mnX0_noons (fun I1 L2 hf hl h => ?_) h
  have hF := hF.tr hf (by intro k hk; first | (simp only [List.mem_cons, List.not_mem_nil, or_false] at hk ⊢; omega) | (simp at hk; done) | (simp at hk ⊢; omega)) (by intro q hq; obtain ⟨k, j⟩ := q; first | (simp only [List.mem_cons, List.not_mem_nil, or_false, Prod.mk.injEq] at hq ⊢; omega) | (simp at hq; done))
  have hL := hL.tr hl (by intro k hk; first | (simp only [List.mem_cons, List.not_mem_nil, or_false] at hk ⊢; omega) | (simp at hk; done) | (simp at hk ⊢; omega)) (by intro q hq; obtain ⟨k, j⟩ := q; first | (simp only [List.mem_cons, List.not_mem_nil, or_false, Prod.mk.injEq] at hq ⊢; omega) | (simp at hq; done))
  refine mnX2_endDay (fun I3 L4 hf hl h => ?_) h
  have hF := hF.tr hf (by intro k hk; first | (simp only [List.mem_cons, List.not_mem_nil, or_false] at hk ⊢; omega) | (simp at hk; done) | (simp at hk ⊢; omega)) (by intro q hq; obtain ⟨k, j⟩ := q; first | (simp only [List.mem_cons, List.not_mem_nil, or_false, Prod.mk.injEq] at hq ⊢; omega) | (simp at hq; done))
  have hL := hL.tr hl (by intro k hk; first | (simp only [List.mem_cons, List.not_mem_nil, or_false] at hk ⊢; omega) | (simp at hk; done) | (simp at hk ⊢; omega)) (by intro q hq; obtain ⟨k, j⟩ := q; first | (simp only [List.mem_cons, List.not_mem_nil, or_false, Prod.mk.injEq] at hq ⊢; omega) | (simp at hq; done))
  exact hQ _ _ _ hF hL h
set_option maxRecDepth 10000 in
theorem mnX0_live_b42 {o1 : Nat} {I0 : Ix} {L0 : Lx} {Q Q' : Int32 → Ix → Lx → Prop} (hQ : ∀ (r : Int32) (I1 : Ix) (L1 : Lx), FrI (wsI_X0_live o1) (fsI_X0_live o1) I0 I1 → FrL (wsL_X0_live o1) (fsL_X0_live o1) L0 L1 → Q r I1 L1 → Q' r I1 L1) {v2 : Int32} {v3 : Int32} {t0 : Int32} {I : Ix} {L : Lx} (hF : FrI (wsI_X0_live o1) (fsI_X0_live o1) I0 I) (hL : FrL (wsL_X0_live o1) (fsL_X0_live o1) L0 L) (h : wpX0_live_b42 o1 Q v2 v3 t0 I L) : wpX0_live_b42 o1 Q' v2 v3 t0 I L := by
  unfold wpX0_live_b42 at h ⊢
  refine ⟨fun hc => ?_, fun hc => ?_⟩
  · have h := h.1 hc
    exact mnX0_live_b59 hQ hF hL h
  · have h := h.2 hc
    intro I1 eI1
    have h := h I1 eI1
    have hF := hF.pf eI1 (by simp)
    exact mnX0_live_b59 hQ hF hL h
set_option maxRecDepth 10000 in
theorem mnX0_live_b41 {o1 : Nat} {I0 : Ix} {L0 : Lx} {Q Q' : Int32 → Ix → Lx → Prop} (hQ : ∀ (r : Int32) (I1 : Ix) (L1 : Lx), FrI (wsI_X0_live o1) (fsI_X0_live o1) I0 I1 → FrL (wsL_X0_live o1) (fsL_X0_live o1) L0 L1 → Q r I1 L1 → Q' r I1 L1) {v2 : Int32} {v3 : Int32} {I : Ix} {L : Lx} (hF : FrI (wsI_X0_live o1) (fsI_X0_live o1) I0 I) (hL : FrL (wsL_X0_live o1) (fsL_X0_live o1) L0 L) (h : wpX0_live_b41 o1 Q v2 v3 I L) : wpX0_live_b41 o1 Q' v2 v3 I L := by
  unfold wpX0_live_b41 at h ⊢
  exact mnX0_live_b42 hQ hF hL h
set_option maxRecDepth 10000 in
theorem mnX0_live {o1 : Nat} {a2 : Int32} {I : Ix} {L : Lx} {Q Q' : Int32 → Ix → Lx → Prop} (hQ : ∀ (r : Int32) (I1 : Ix) (L1 : Lx), FrI (wsI_X0_live o1) (fsI_X0_live o1) I I1 → FrL (wsL_X0_live o1) (fsL_X0_live o1) L L1 → Q r I1 L1 → Q' r I1 L1) (h : wpX0_live o1 a2 I L Q) : wpX0_live o1 a2 I L Q' := by
  have hF : FrI (wsI_X0_live o1) (fsI_X0_live o1) I I := FrI.rf
  have hL : FrL (wsL_X0_live o1) (fsL_X0_live o1) L L := FrL.rf
  unfold wpX0_live at h ⊢
  refine mnX0_use (fun r3 I1 L2 hf hl h => ?_) h
  have hF := hF.tr hf (by intro k hk; first | (simp only [List.mem_cons, List.not_mem_nil, or_false] at hk ⊢; omega) | (simp at hk; done) | (simp at hk ⊢; omega)) (by intro q hq; obtain ⟨k, j⟩ := q; first | (simp only [List.mem_cons, List.not_mem_nil, or_false, Prod.mk.injEq] at hq ⊢; omega) | (simp at hq; done))
  have hL := hL.tr hl (by intro k hk; first | (simp only [List.mem_cons, List.not_mem_nil, or_false] at hk ⊢; omega) | (simp at hk; done) | (simp at hk ⊢; omega)) (by intro q hq; obtain ⟨k, j⟩ := q; first | (simp only [List.mem_cons, List.not_mem_nil, or_false, Prod.mk.injEq] at hq ⊢; omega) | (simp at hq; done))
  refine mnX0_mend (fun I4 L5 hf hl h => ?_) h
  have hF := hF.tr hf (by intro k hk; first | (simp only [List.mem_cons, List.not_mem_nil, or_false] at hk ⊢; omega) | (simp at hk; done) | (simp at hk ⊢; omega)) (by intro q hq; obtain ⟨k, j⟩ := q; first | (simp only [List.mem_cons, List.not_mem_nil, or_false, Prod.mk.injEq] at hq ⊢; omega) | (simp at hq; done))
  have hL := hL.tr hl (by intro k hk; first | (simp only [List.mem_cons, List.not_mem_nil, or_false] at hk ⊢; omega) | (simp at hk; done) | (simp at hk ⊢; omega)) (by intro q hq; obtain ⟨k, j⟩ := q; first | (simp only [List.mem_cons, List.not_mem_nil, or_false, Prod.mk.injEq] at hq ⊢; omega) | (simp at hq; done))
  refine ⟨fun hc => ?_, fun hc => ?_⟩
  · have h := h.1 hc
    exact mnX0_live_b41 hQ hF hL h
  · have h := h.2 hc
    refine mnX2_draw (fun r8 I6 L7 hf hl h => ?_) h
    have hF := hF.tr hf (by intro k hk; first | (simp only [List.mem_cons, List.not_mem_nil, or_false] at hk ⊢; omega) | (simp at hk; done) | (simp at hk ⊢; omega)) (by intro q hq; obtain ⟨k, j⟩ := q; first | (simp only [List.mem_cons, List.not_mem_nil, or_false, Prod.mk.injEq] at hq ⊢; omega) | (simp at hq; done))
    have hL := hL.tr hl (by intro k hk; first | (simp only [List.mem_cons, List.not_mem_nil, or_false] at hk ⊢; omega) | (simp at hk; done) | (simp at hk ⊢; omega)) (by intro q hq; obtain ⟨k, j⟩ := q; first | (simp only [List.mem_cons, List.not_mem_nil, or_false, Prod.mk.injEq] at hq ⊢; omega) | (simp at hq; done))
    refine ⟨fun hc => ?_, fun hc => ?_⟩
    · have h := h.1 hc
      exact mnX0_live_b41 hQ hF hL h
    · have h := h.2 hc
      exact mnX0_live_b42 hQ hF hL h
abbrev wsI_X11_run : List Nat := [66, 67, 59, 63, 14, 56, 54, 68, 64, 65, 61, 60, 55, 58]
abbrev wsL_X11_run : List Nat := []
abbrev fsI_X11_run : List (Nat × Nat) := [(53, 1), (53, 2), (53, 0)]
abbrev fsL_X11_run : List (Nat × Nat) := []
set_option maxRecDepth 10000 in
theorem mnX11_run_l31 {I0 : Ix} {L0 : Lx} {Q Q' : Int32 → Ix → Lx → Prop} {P31 P31' : Int32 → Int32 → Int32 → Ix → Lx → Prop} (hQ : ∀ (r : Int32) (I1 : Ix) (L1 : Lx), FrI (wsI_X11_run) (fsI_X11_run) I0 I1 → FrL (wsL_X11_run) (fsL_X11_run) L0 L1 → Q r I1 L1 → Q' r I1 L1) (hP31 : ∀ (v1 : Int32) (v2 : Int32) (v3 : Int32) (I1 : Ix) (L1 : Lx), FrI (wsI_X11_run) (fsI_X11_run) I0 I1 → FrL (wsL_X11_run) (fsL_X11_run) L0 L1 → P31 v1 v2 v3 I1 L1 → P31' v1 v2 v3 I1 L1) {v1 : Int32} {v2 : Int32} {v3 : Int32} {I : Ix} {L : Lx} (hF : FrI (wsI_X11_run) (fsI_X11_run) I0 I) (hL : FrL (wsL_X11_run) (fsL_X11_run) L0 L) (h : wpX11_run_l31 Q P31 v1 v2 v3 I L) : wpX11_run_l31 Q' P31' v1 v2 v3 I L := by
  unfold wpX11_run_l31 at h ⊢
  refine ⟨fun hc => ?_, fun hc => ?_⟩
  · have h := h.1 hc
    exact hQ _ _ _ hF hL h
  · have h := h.2 hc
    refine mnX0_live (fun r3 I1 L2 hf hl h => ?_) h
    have hF := hF.tr hf (by decide) (by decide)
    have hL := hL.tr hl (by decide) (by decide)
    exact hP31 _ _ _ _ _ hF hL h
set_option maxRecDepth 10000 in
theorem mnX11_run_h31 {I0 : Ix} {L0 : Lx} {Q Q' : Int32 → Ix → Lx → Prop} (hQ : ∀ (r : Int32) (I1 : Ix) (L1 : Lx), FrI (wsI_X11_run) (fsI_X11_run) I0 I1 → FrL (wsL_X11_run) (fsL_X11_run) L0 L1 → Q r I1 L1 → Q' r I1 L1) {v1 : Int32} {v2 : Int32} {v3 : Int32} {I : Ix} {L : Lx} (hF : FrI (wsI_X11_run) (fsI_X11_run) I0 I) (hL : FrL (wsL_X11_run) (fsL_X11_run) L0 L) (h : wpX11_run_h31 Q v1 v2 v3 I L) : wpX11_run_h31 Q' v1 v2 v3 I L := by
  unfold wpX11_run_h31 at h
  refine Lfp.ind (P := fun z => FrI (wsI_X11_run) (fsI_X11_run) I0 z.2.2.2.1 → FrL (wsL_X11_run) (fsL_X11_run) L0 z.2.2.2.2 → wpX11_run_h31 Q' z.1 z.2.1 z.2.2.1 z.2.2.2.1 z.2.2.2.2) ?_ h hF hL
  intro z P' hP' h hF hL
  obtain ⟨v1, v2, v3, I, L⟩ := z
  exact wpX11_run_h31_fold (mnX11_run_l31 hQ (fun v1 v2 v3 I L hF hL h9 => hP' (v1, v2, v3, I, L) h9 hF hL) hF hL h)
set_option maxRecDepth 10000 in
theorem mnX11_run {a1 : Int32} {I : Ix} {L : Lx} {Q Q' : Int32 → Ix → Lx → Prop} (hQ : ∀ (r : Int32) (I1 : Ix) (L1 : Lx), FrI (wsI_X11_run) (fsI_X11_run) I I1 → FrL (wsL_X11_run) (fsL_X11_run) L L1 → Q r I1 L1 → Q' r I1 L1) (h : wpX11_run a1 I L Q) : wpX11_run a1 I L Q' := by
  have hF : FrI (wsI_X11_run) (fsI_X11_run) I I := FrI.rf
  have hL : FrL (wsL_X11_run) (fsL_X11_run) L L := FrL.rf
  unfold wpX11_run at h ⊢
  refine ⟨fun hc => ?_, fun hc => ?_⟩
  · have h := h.1 hc
    exact hQ _ _ _ hF hL h
  · have h := h.2 hc
    refine ⟨fun hc => ?_, fun hc => ?_⟩
    · have h := h.1 hc
      exact hQ _ _ _ hF hL h
    · have h := h.2 hc
      refine ⟨fun hc => ?_, fun hc => ?_⟩
      · have h := h.1 hc
        exact mnX11_run_h31 hQ hF hL h
      · have h := h.2 hc
        exact hQ _ _ _ hF hL h
abbrev wsI_X11_isThing : List Nat := []
abbrev wsL_X11_isThing : List Nat := []
abbrev fsI_X11_isThing : List (Nat × Nat) := []
abbrev fsL_X11_isThing : List (Nat × Nat) := []
set_option maxRecDepth 10000 in
theorem mnX11_isThing {a1 : Int32} {I : Ix} {L : Lx} {Q Q' : Bool → Ix → Lx → Prop} (hQ : ∀ (r : Bool) (I1 : Ix) (L1 : Lx), FrI (wsI_X11_isThing) (fsI_X11_isThing) I I1 → FrL (wsL_X11_isThing) (fsL_X11_isThing) L L1 → Q r I1 L1 → Q' r I1 L1) (h : wpX11_isThing a1 I L Q) : wpX11_isThing a1 I L Q' := by
  have hF : FrI (wsI_X11_isThing) (fsI_X11_isThing) I I := FrI.rf
  have hL : FrL (wsL_X11_isThing) (fsL_X11_isThing) L L := FrL.rf
  unfold wpX11_isThing at h ⊢
  refine ⟨fun hc => ?_, fun hc => ?_⟩
  · have h := h.1 hc
    exact hQ _ _ _ hF hL h
  · have h := h.2 hc
    refine ⟨fun hc => ?_, fun hc => ?_⟩
    · have h := h.1 hc
      exact hQ _ _ _ hF hL h
    · have h := h.2 hc
      exact hQ _ _ _ hF hL h
abbrev wsI_X11_thing : List Nat := []
abbrev wsL_X11_thing : List Nat := []
abbrev fsI_X11_thing : List (Nat × Nat) := []
abbrev fsL_X11_thing : List (Nat × Nat) := []
set_option maxRecDepth 10000 in
theorem mnX11_thing {a1 : Int32} {a2 : Int32} {I : Ix} {L : Lx} {Q Q' : Int32 → Ix → Lx → Prop} (hQ : ∀ (r : Int32) (I1 : Ix) (L1 : Lx), FrI (wsI_X11_thing) (fsI_X11_thing) I I1 → FrL (wsL_X11_thing) (fsL_X11_thing) L L1 → Q r I1 L1 → Q' r I1 L1) (h : wpX11_thing a1 a2 I L Q) : wpX11_thing a1 a2 I L Q' := by
  have hF : FrI (wsI_X11_thing) (fsI_X11_thing) I I := FrI.rf
  have hL : FrL (wsL_X11_thing) (fsL_X11_thing) L L := FrL.rf
  unfold wpX11_thing at h ⊢
  refine mnX11_isThing (fun r3 I1 L2 hf hl h => ?_) h
  have hF := hF.tr hf (by decide) (by decide)
  have hL := hL.tr hl (by decide) (by decide)
  refine ⟨fun hc => ?_, fun hc => ?_⟩
  · have h := h.1 hc
    refine ⟨fun hc => ?_, fun hc => ?_, fun hc => ?_, fun hc => ?_, fun hc => ?_, fun hc => ?_, ?_⟩
    · have h := h.1 hc
      refine ⟨h.1, ?_⟩
      have h := h.2
      exact hQ _ _ _ hF hL h
    · have h := h.2.1 hc
      refine ⟨h.1, ?_⟩
      have h := h.2
      exact hQ _ _ _ hF hL h
    · have h := h.2.2.1 hc
      refine ⟨h.1, ?_⟩
      have h := h.2
      exact hQ _ _ _ hF hL h
    · have h := h.2.2.2.1 hc
      refine ⟨h.1, ?_⟩
      have h := h.2
      refine ⟨fun hc => ?_, fun hc => ?_⟩
      · have h := h.1 hc
        exact hQ _ _ _ hF hL h
      · have h := h.2 hc
        exact hQ _ _ _ hF hL h
    · have h := h.2.2.2.2.1 hc
      refine ⟨h.1, ?_⟩
      have h := h.2
      exact hQ _ _ _ hF hL h
    · have h := h.2.2.2.2.2.1 hc
      refine ⟨h.1, ?_⟩
      have h := h.2
      exact hQ _ _ _ hF hL h
    · intro e0 e1 e2 e3 e4 e5
      have h := h.2.2.2.2.2.2 e0 e1 e2 e3 e4 e5
      exact hQ _ _ _ hF hL h
  · have h := h.2 hc
    exact hQ _ _ _ hF hL h
abbrev wsI_X11_isPerson : List Nat := []
abbrev wsL_X11_isPerson : List Nat := []
abbrev fsI_X11_isPerson : List (Nat × Nat) := []
abbrev fsL_X11_isPerson : List (Nat × Nat) := []
set_option maxRecDepth 10000 in
theorem mnX11_isPerson {a1 : Int32} {I : Ix} {L : Lx} {Q Q' : Bool → Ix → Lx → Prop} (hQ : ∀ (r : Bool) (I1 : Ix) (L1 : Lx), FrI (wsI_X11_isPerson) (fsI_X11_isPerson) I I1 → FrL (wsL_X11_isPerson) (fsL_X11_isPerson) L L1 → Q r I1 L1 → Q' r I1 L1) (h : wpX11_isPerson a1 I L Q) : wpX11_isPerson a1 I L Q' := by
  have hF : FrI (wsI_X11_isPerson) (fsI_X11_isPerson) I I := FrI.rf
  have hL : FrL (wsL_X11_isPerson) (fsL_X11_isPerson) L L := FrL.rf
  unfold wpX11_isPerson at h ⊢
  refine ⟨fun hc => ?_, fun hc => ?_⟩
  · have h := h.1 hc
    exact hQ _ _ _ hF hL h
  · have h := h.2 hc
    refine ⟨fun hc => ?_, fun hc => ?_⟩
    · have h := h.1 hc
      exact hQ _ _ _ hF hL h
    · have h := h.2 hc
      exact hQ _ _ _ hF hL h
abbrev wsI_X11_thingsOf : List Nat := []
abbrev wsL_X11_thingsOf : List Nat := []
abbrev fsI_X11_thingsOf : List (Nat × Nat) := []
abbrev fsL_X11_thingsOf : List (Nat × Nat) := []
set_option maxRecDepth 10000 in
theorem mnX11_thingsOf_l4 {I0 : Ix} {L0 : Lx} {Q Q' : Int32 → Ix → Lx → Prop} {P4 P4' : Int32 → Int32 → Int32 → Ix → Lx → Prop} (hQ : ∀ (r : Int32) (I1 : Ix) (L1 : Lx), FrI (wsI_X11_thingsOf) (fsI_X11_thingsOf) I0 I1 → FrL (wsL_X11_thingsOf) (fsL_X11_thingsOf) L0 L1 → Q r I1 L1 → Q' r I1 L1) (hP4 : ∀ (v1 : Int32) (v2 : Int32) (v3 : Int32) (I1 : Ix) (L1 : Lx), FrI (wsI_X11_thingsOf) (fsI_X11_thingsOf) I0 I1 → FrL (wsL_X11_thingsOf) (fsL_X11_thingsOf) L0 L1 → P4 v1 v2 v3 I1 L1 → P4' v1 v2 v3 I1 L1) {v1 : Int32} {v2 : Int32} {v3 : Int32} {I : Ix} {L : Lx} (hF : FrI (wsI_X11_thingsOf) (fsI_X11_thingsOf) I0 I) (hL : FrL (wsL_X11_thingsOf) (fsL_X11_thingsOf) L0 L) (h : wpX11_thingsOf_l4 Q P4 v1 v2 v3 I L) : wpX11_thingsOf_l4 Q' P4' v1 v2 v3 I L := by
  unfold wpX11_thingsOf_l4 at h ⊢
  refine ⟨fun hc => ?_, fun hc => ?_⟩
  · have h := h.1 hc
    exact hQ _ _ _ hF hL h
  · have h := h.2 hc
    refine ⟨h.1, ?_⟩
    have h := h.2
    refine ⟨fun hc => ?_, fun hc => ?_⟩
    · have h := h.1 hc
      exact hP4 _ _ _ _ _ hF hL h
    · have h := h.2 hc
      exact hP4 _ _ _ _ _ hF hL h
set_option maxRecDepth 10000 in
theorem mnX11_thingsOf_h4 {I0 : Ix} {L0 : Lx} {Q Q' : Int32 → Ix → Lx → Prop} (hQ : ∀ (r : Int32) (I1 : Ix) (L1 : Lx), FrI (wsI_X11_thingsOf) (fsI_X11_thingsOf) I0 I1 → FrL (wsL_X11_thingsOf) (fsL_X11_thingsOf) L0 L1 → Q r I1 L1 → Q' r I1 L1) {v1 : Int32} {v2 : Int32} {v3 : Int32} {I : Ix} {L : Lx} (hF : FrI (wsI_X11_thingsOf) (fsI_X11_thingsOf) I0 I) (hL : FrL (wsL_X11_thingsOf) (fsL_X11_thingsOf) L0 L) (h : wpX11_thingsOf_h4 Q v1 v2 v3 I L) : wpX11_thingsOf_h4 Q' v1 v2 v3 I L := by
  unfold wpX11_thingsOf_h4 at h
  refine Lfp.ind (P := fun z => FrI (wsI_X11_thingsOf) (fsI_X11_thingsOf) I0 z.2.2.2.1 → FrL (wsL_X11_thingsOf) (fsL_X11_thingsOf) L0 z.2.2.2.2 → wpX11_thingsOf_h4 Q' z.1 z.2.1 z.2.2.1 z.2.2.2.1 z.2.2.2.2) ?_ h hF hL
  intro z P' hP' h hF hL
  obtain ⟨v1, v2, v3, I, L⟩ := z
  exact wpX11_thingsOf_h4_fold (mnX11_thingsOf_l4 hQ (fun v1 v2 v3 I L hF hL h9 => hP' (v1, v2, v3, I, L) h9 hF hL) hF hL h)
set_option maxRecDepth 10000 in
theorem mnX11_thingsOf {a1 : Int32} {I : Ix} {L : Lx} {Q Q' : Int32 → Ix → Lx → Prop} (hQ : ∀ (r : Int32) (I1 : Ix) (L1 : Lx), FrI (wsI_X11_thingsOf) (fsI_X11_thingsOf) I I1 → FrL (wsL_X11_thingsOf) (fsL_X11_thingsOf) L L1 → Q r I1 L1 → Q' r I1 L1) (h : wpX11_thingsOf a1 I L Q) : wpX11_thingsOf a1 I L Q' := by
  have hF : FrI (wsI_X11_thingsOf) (fsI_X11_thingsOf) I I := FrI.rf
  have hL : FrL (wsL_X11_thingsOf) (fsL_X11_thingsOf) L L := FrL.rf
  unfold wpX11_thingsOf at h ⊢
  exact mnX11_thingsOf_h4 hQ hF hL h
abbrev wsI_X11_person : List Nat := [64, 65, 68, 63, 14]
abbrev wsL_X11_person : List Nat := []
abbrev fsI_X11_person : List (Nat × Nat) := []
abbrev fsL_X11_person : List (Nat × Nat) := []
set_option maxRecDepth 10000 in
theorem mnX11_person {a1 : Int32} {a2 : Int32} {I : Ix} {L : Lx} {Q Q' : Int32 → Ix → Lx → Prop} (hQ : ∀ (r : Int32) (I1 : Ix) (L1 : Lx), FrI (wsI_X11_person) (fsI_X11_person) I I1 → FrL (wsL_X11_person) (fsL_X11_person) L L1 → Q r I1 L1 → Q' r I1 L1) (h : wpX11_person a1 a2 I L Q) : wpX11_person a1 a2 I L Q' := by
  have hF : FrI (wsI_X11_person) (fsI_X11_person) I I := FrI.rf
  have hL : FrL (wsL_X11_person) (fsL_X11_person) L L := FrL.rf
  unfold wpX11_person at h ⊢
  refine mnX11_isPerson (fun r3 I1 L2 hf hl h => ?_) h
  have hF := hF.tr hf (by decide) (by decide)
  have hL := hL.tr hl (by decide) (by decide)
  refine ⟨fun hc => ?_, fun hc => ?_⟩
  · have h := h.1 hc
    refine ⟨fun hc => ?_, fun hc => ?_, fun hc => ?_, fun hc => ?_, ?_⟩
    · have h := h.1 hc
      refine ⟨h.1, ?_⟩
      have h := h.2
      exact hQ _ _ _ hF hL h
    · have h := h.2.1 hc
      refine ⟨h.1, ?_⟩
      have h := h.2
      exact hQ _ _ _ hF hL h
    · have h := h.2.2.1 hc
      refine mnX11_thingsOf (fun r6 I4 L5 hf hl h => ?_) h
      have hF := hF.tr hf (by decide) (by decide)
      have hL := hL.tr hl (by decide) (by decide)
      exact hQ _ _ _ hF hL h
    · have h := h.2.2.2.1 hc
      refine mnX0_remember (fun I7 L8 hf hl h => ?_) h
      have hF := hF.tr hf (by decide) (by decide)
      have hL := hL.tr hl (by decide) (by decide)
      refine mnX0_aim (fun r11 I9 L10 hf hl h => ?_) h
      have hF := hF.tr hf (by decide) (by decide)
      have hL := hL.tr hl (by decide) (by decide)
      exact hQ _ _ _ hF hL h
    · intro e0 e1 e2 e3
      have h := h.2.2.2.2 e0 e1 e2 e3
      exact hQ _ _ _ hF hL h
  · have h := h.2 hc
    exact hQ _ _ _ hF hL h
abbrev wsI_X11_isPlace : List Nat := []
abbrev wsL_X11_isPlace : List Nat := []
abbrev fsI_X11_isPlace : List (Nat × Nat) := []
abbrev fsL_X11_isPlace : List (Nat × Nat) := []
set_option maxRecDepth 10000 in
theorem mnX11_isPlace {a1 : Int32} {I : Ix} {L : Lx} {Q Q' : Bool → Ix → Lx → Prop} (hQ : ∀ (r : Bool) (I1 : Ix) (L1 : Lx), FrI (wsI_X11_isPlace) (fsI_X11_isPlace) I I1 → FrL (wsL_X11_isPlace) (fsL_X11_isPlace) L L1 → Q r I1 L1 → Q' r I1 L1) (h : wpX11_isPlace a1 I L Q) : wpX11_isPlace a1 I L Q' := by
  have hF : FrI (wsI_X11_isPlace) (fsI_X11_isPlace) I I := FrI.rf
  have hL : FrL (wsL_X11_isPlace) (fsL_X11_isPlace) L L := FrL.rf
  unfold wpX11_isPlace at h ⊢
  refine ⟨fun hc => ?_, fun hc => ?_⟩
  · have h := h.1 hc
    exact hQ _ _ _ hF hL h
  · have h := h.2 hc
    refine ⟨fun hc => ?_, fun hc => ?_⟩
    · have h := h.1 hc
      exact hQ _ _ _ hF hL h
    · have h := h.2 hc
      exact hQ _ _ _ hF hL h
abbrev wsI_X11_far : List Nat := []
abbrev wsL_X11_far : List Nat := []
abbrev fsI_X11_far : List (Nat × Nat) := []
abbrev fsL_X11_far : List (Nat × Nat) := []
set_option maxRecDepth 10000 in
theorem mnX11_far {a1 : Int32} {a2 : Int32} {I : Ix} {L : Lx} {Q Q' : Int32 → Ix → Lx → Prop} (hQ : ∀ (r : Int32) (I1 : Ix) (L1 : Lx), FrI (wsI_X11_far) (fsI_X11_far) I I1 → FrL (wsL_X11_far) (fsL_X11_far) L L1 → Q r I1 L1 → Q' r I1 L1) (h : wpX11_far a1 a2 I L Q) : wpX11_far a1 a2 I L Q' := by
  have hF : FrI (wsI_X11_far) (fsI_X11_far) I I := FrI.rf
  have hL : FrL (wsL_X11_far) (fsL_X11_far) L L := FrL.rf
  unfold wpX11_far at h ⊢
  refine mnX11_isPlace (fun r3 I1 L2 hf hl h => ?_) h
  have hF := hF.tr hf (by decide) (by decide)
  have hL := hL.tr hl (by decide) (by decide)
  refine ⟨fun hc => ?_, fun hc => ?_⟩
  · have h := h.1 hc
    exact hQ _ _ _ hF hL h
  · have h := h.2 hc
    refine mnX11_isPlace (fun r6 I4 L5 hf hl h => ?_) h
    have hF := hF.tr hf (by decide) (by decide)
    have hL := hL.tr hl (by decide) (by decide)
    refine ⟨fun hc => ?_, fun hc => ?_⟩
    · have h := h.1 hc
      exact hQ _ _ _ hF hL h
    · have h := h.2 hc
      refine mnX1_minutes_4 (fun r9 I7 L8 hf hl h => ?_) h
      have hF := hF.tr hf (by decide) (by decide)
      have hL := hL.tr hl (by decide) (by decide)
      exact hQ _ _ _ hF hL h
abbrev wsI_X11_isPersonOrNobody : List Nat := []
abbrev wsL_X11_isPersonOrNobody : List Nat := []
abbrev fsI_X11_isPersonOrNobody : List (Nat × Nat) := []
abbrev fsL_X11_isPersonOrNobody : List (Nat × Nat) := []
set_option maxRecDepth 10000 in
theorem mnX11_isPersonOrNobody_b13 {I0 : Ix} {L0 : Lx} {Q Q' : Bool → Ix → Lx → Prop} (hQ : ∀ (r : Bool) (I1 : Ix) (L1 : Lx), FrI (wsI_X11_isPersonOrNobody) (fsI_X11_isPersonOrNobody) I0 I1 → FrL (wsL_X11_isPersonOrNobody) (fsL_X11_isPersonOrNobody) L0 L1 → Q r I1 L1 → Q' r I1 L1) {I : Ix} {L : Lx} (hF : FrI (wsI_X11_isPersonOrNobody) (fsI_X11_isPersonOrNobody) I0 I) (hL : FrL (wsL_X11_isPersonOrNobody) (fsL_X11_isPersonOrNobody) L0 L) (h : wpX11_isPersonOrNobody_b13 Q I L) : wpX11_isPersonOrNobody_b13 Q' I L := by
  unfold wpX11_isPersonOrNobody_b13 at h ⊢
  exact hQ _ _ _ hF hL h
set_option maxRecDepth 10000 in
theorem mnX11_isPersonOrNobody {a1 : Int32} {I : Ix} {L : Lx} {Q Q' : Bool → Ix → Lx → Prop} (hQ : ∀ (r : Bool) (I1 : Ix) (L1 : Lx), FrI (wsI_X11_isPersonOrNobody) (fsI_X11_isPersonOrNobody) I I1 → FrL (wsL_X11_isPersonOrNobody) (fsL_X11_isPersonOrNobody) L L1 → Q r I1 L1 → Q' r I1 L1) (h : wpX11_isPersonOrNobody a1 I L Q) : wpX11_isPersonOrNobody a1 I L Q' := by
  have hF : FrI (wsI_X11_isPersonOrNobody) (fsI_X11_isPersonOrNobody) I I := FrI.rf
  have hL : FrL (wsL_X11_isPersonOrNobody) (fsL_X11_isPersonOrNobody) L L := FrL.rf
  unfold wpX11_isPersonOrNobody at h ⊢
  refine ⟨fun hc => ?_, fun hc => ?_⟩
  · have h := h.1 hc
    exact mnX11_isPersonOrNobody_b13 hQ hF hL h
  · have h := h.2 hc
    refine mnX11_isPerson (fun r3 I1 L2 hf hl h => ?_) h
    have hF := hF.tr hf (by decide) (by decide)
    have hL := hL.tr hl (by decide) (by decide)
    refine ⟨fun hc => ?_, fun hc => ?_⟩
    · have h := h.1 hc
      exact hQ _ _ _ hF hL h
    · have h := h.2 hc
      exact mnX11_isPersonOrNobody_b13 hQ hF hL h
abbrev wsI_X11_give : List Nat := [54]
abbrev wsL_X11_give : List Nat := []
abbrev fsI_X11_give : List (Nat × Nat) := []
abbrev fsL_X11_give : List (Nat × Nat) := []
set_option maxRecDepth 10000 in
theorem mnX11_give {a1 : Int32} {a2 : Int32} {I : Ix} {L : Lx} {Q Q' : Bool → Ix → Lx → Prop} (hQ : ∀ (r : Bool) (I1 : Ix) (L1 : Lx), FrI (wsI_X11_give) (fsI_X11_give) I I1 → FrL (wsL_X11_give) (fsL_X11_give) L L1 → Q r I1 L1 → Q' r I1 L1) (h : wpX11_give a1 a2 I L Q) : wpX11_give a1 a2 I L Q' := by
  have hF : FrI (wsI_X11_give) (fsI_X11_give) I I := FrI.rf
  have hL : FrL (wsL_X11_give) (fsL_X11_give) L L := FrL.rf
  unfold wpX11_give at h ⊢
  refine mnX11_isThing (fun r3 I1 L2 hf hl h => ?_) h
  have hF := hF.tr hf (by decide) (by decide)
  have hL := hL.tr hl (by decide) (by decide)
  refine ⟨fun hc => ?_, fun hc => ?_⟩
  · have h := h.1 hc
    exact hQ _ _ _ hF hL h
  · have h := h.2 hc
    refine mnX11_isPersonOrNobody (fun r6 I4 L5 hf hl h => ?_) h
    have hF := hF.tr hf (by decide) (by decide)
    have hL := hL.tr hl (by decide) (by decide)
    refine ⟨fun hc => ?_, fun hc => ?_⟩
    · have h := h.1 hc
      exact hQ _ _ _ hF hL h
    · have h := h.2 hc
      refine ⟨h.1, ?_⟩
      have h := h.2
      refine ⟨fun hc => ?_, fun hc => ?_⟩
      · have h := h.1 hc
        refine ⟨h.1, ?_⟩
        have h := h.2
        intro I7 eI7
        have h := h I7 eI7
        have hF := hF.pw eI7 (by decide)
        exact hQ _ _ _ hF hL h
      · have h := h.2 hc
        exact hQ _ _ _ hF hL h
abbrev wsI_X11_chip : List Nat := [57]
abbrev wsL_X11_chip : List Nat := []
abbrev fsI_X11_chip : List (Nat × Nat) := []
abbrev fsL_X11_chip : List (Nat × Nat) := []
set_option maxRecDepth 10000 in
theorem mnX11_chip {a1 : Int32} {a2 : Int32} {I : Ix} {L : Lx} {Q Q' : Int32 → Ix → Lx → Prop} (hQ : ∀ (r : Int32) (I1 : Ix) (L1 : Lx), FrI (wsI_X11_chip) (fsI_X11_chip) I I1 → FrL (wsL_X11_chip) (fsL_X11_chip) L L1 → Q r I1 L1 → Q' r I1 L1) (h : wpX11_chip a1 a2 I L Q) : wpX11_chip a1 a2 I L Q' := by
  have hF : FrI (wsI_X11_chip) (fsI_X11_chip) I I := FrI.rf
  have hL : FrL (wsL_X11_chip) (fsL_X11_chip) L L := FrL.rf
  unfold wpX11_chip at h ⊢
  refine mnX11_isThing (fun r3 I1 L2 hf hl h => ?_) h
  have hF := hF.tr hf (by decide) (by decide)
  have hL := hL.tr hl (by decide) (by decide)
  refine ⟨fun hc => ?_, fun hc => ?_⟩
  · have h := h.1 hc
    exact hQ _ _ _ hF hL h
  · have h := h.2 hc
    refine ⟨fun hc => ?_, fun hc => ?_⟩
    · have h := h.1 hc
      exact hQ _ _ _ hF hL h
    · have h := h.2 hc
      refine ⟨h.1, ?_⟩
      have h := h.2
      refine ⟨fun hc => ?_, fun hc => ?_⟩
      · have h := h.1 hc
        refine ⟨h.1, ?_⟩
        have h := h.2
        refine ⟨h.1, ?_⟩
        have h := h.2
        intro I4 eI4
        have h := h I4 eI4
        have hF := hF.pw eI4 (by decide)
        refine ⟨h.1, ?_⟩
        have h := h.2
        exact hQ _ _ _ hF hL h
      · have h := h.2 hc
        exact hQ _ _ _ hF hL h
abbrev wsI_X11_asks : List Nat := [64, 65, 68, 63, 14]
abbrev wsL_X11_asks : List Nat := []
abbrev fsI_X11_asks : List (Nat × Nat) := []
abbrev fsL_X11_asks : List (Nat × Nat) := []
set_option maxRecDepth 10000 in
theorem mnX11_asks {a1 : Int32} {a2 : Int32} {I : Ix} {L : Lx} {Q Q' : Int32 → Ix → Lx → Prop} (hQ : ∀ (r : Int32) (I1 : Ix) (L1 : Lx), FrI (wsI_X11_asks) (fsI_X11_asks) I I1 → FrL (wsL_X11_asks) (fsL_X11_asks) L L1 → Q r I1 L1 → Q' r I1 L1) (h : wpX11_asks a1 a2 I L Q) : wpX11_asks a1 a2 I L Q' := by
  have hF : FrI (wsI_X11_asks) (fsI_X11_asks) I I := FrI.rf
  have hL : FrL (wsL_X11_asks) (fsL_X11_asks) L L := FrL.rf
  unfold wpX11_asks at h ⊢
  refine mnX11_isPerson (fun r3 I1 L2 hf hl h => ?_) h
  have hF := hF.tr hf (by decide) (by decide)
  have hL := hL.tr hl (by decide) (by decide)
  refine ⟨fun hc => ?_, fun hc => ?_⟩
  · have h := h.1 hc
    exact hQ _ _ _ hF hL h
  · have h := h.2 hc
    refine mnX11_isThing (fun r6 I4 L5 hf hl h => ?_) h
    have hF := hF.tr hf (by decide) (by decide)
    have hL := hL.tr hl (by decide) (by decide)
    refine ⟨fun hc => ?_, fun hc => ?_⟩
    · have h := h.1 hc
      refine mnX0_remember (fun I7 L8 hf hl h => ?_) h
      have hF := hF.tr hf (by decide) (by decide)
      have hL := hL.tr hl (by decide) (by decide)
      refine mnX0_ask (fun r11 I9 L10 hf hl h => ?_) h
      have hF := hF.tr hf (by decide) (by decide)
      have hL := hL.tr hl (by decide) (by decide)
      exact hQ _ _ _ hF hL h
    · have h := h.2 hc
      exact hQ _ _ _ hF hL h
abbrev wsI_X9_isDrawn : List Nat := []
abbrev wsL_X9_isDrawn : List Nat := []
abbrev fsI_X9_isDrawn : List (Nat × Nat) := []
abbrev fsL_X9_isDrawn : List (Nat × Nat) := []
set_option maxRecDepth 10000 in
theorem mnX9_isDrawn {a1 : Int32} {I : Ix} {L : Lx} {Q Q' : Bool → Ix → Lx → Prop} (hQ : ∀ (r : Bool) (I1 : Ix) (L1 : Lx), FrI (wsI_X9_isDrawn) (fsI_X9_isDrawn) I I1 → FrL (wsL_X9_isDrawn) (fsL_X9_isDrawn) L L1 → Q r I1 L1 → Q' r I1 L1) (h : wpX9_isDrawn a1 I L Q) : wpX9_isDrawn a1 I L Q' := by
  have hF : FrI (wsI_X9_isDrawn) (fsI_X9_isDrawn) I I := FrI.rf
  have hL : FrL (wsL_X9_isDrawn) (fsL_X9_isDrawn) L L := FrL.rf
  unfold wpX9_isDrawn at h ⊢
  refine ⟨fun hc => ?_, fun hc => ?_⟩
  · have h := h.1 hc
    exact hQ _ _ _ hF hL h
  · have h := h.2 hc
    refine ⟨h.1, ?_⟩
    have h := h.2
    refine ⟨fun hc => ?_, fun hc => ?_⟩
    · have h := h.1 hc
      exact hQ _ _ _ hF hL h
    · have h := h.2 hc
      exact hQ _ _ _ hF hL h
abbrev wsI_X9_lotsFor : List Nat := []
abbrev wsL_X9_lotsFor : List Nat := []
abbrev fsI_X9_lotsFor : List (Nat × Nat) := []
abbrev fsL_X9_lotsFor : List (Nat × Nat) := []
set_option maxRecDepth 10000 in
theorem mnX9_lotsFor {a1 : Int32} {I : Ix} {L : Lx} {Q Q' : Int32 → Ix → Lx → Prop} (hQ : ∀ (r : Int32) (I1 : Ix) (L1 : Lx), FrI (wsI_X9_lotsFor) (fsI_X9_lotsFor) I I1 → FrL (wsL_X9_lotsFor) (fsL_X9_lotsFor) L L1 → Q r I1 L1 → Q' r I1 L1) (h : wpX9_lotsFor a1 I L Q) : wpX9_lotsFor a1 I L Q' := by
  have hF : FrI (wsI_X9_lotsFor) (fsI_X9_lotsFor) I I := FrI.rf
  have hL : FrL (wsL_X9_lotsFor) (fsL_X9_lotsFor) L L := FrL.rf
  unfold wpX9_lotsFor at h ⊢
  refine mnX9_isDrawn (fun r3 I1 L2 hf hl h => ?_) h
  have hF := hF.tr hf (by decide) (by decide)
  have hL := hL.tr hl (by decide) (by decide)
  refine ⟨fun hc => ?_, fun hc => ?_⟩
  · have h := h.1 hc
    exact hQ _ _ _ hF hL h
  · have h := h.2 hc
    refine ⟨h.1, ?_⟩
    have h := h.2
    refine mnJ6_bitCount_0f7a4 (fun r6 I4 L5 hf hl h => ?_) h
    have hF := hF.tr hf (by decide) (by decide)
    have hL := hL.tr hl (by decide) (by decide)
    exact hQ _ _ _ hF hL h
abbrev wsI_X9_commonDivisor : List Nat := []
abbrev wsL_X9_commonDivisor : List Nat := []
abbrev fsI_X9_commonDivisor : List (Nat × Nat) := []
abbrev fsL_X9_commonDivisor : List (Nat × Nat) := []
set_option maxRecDepth 10000 in
theorem mnX9_commonDivisor_l7 {I0 : Ix} {L0 : Lx} {Q Q' : Int32 → Ix → Lx → Prop} {P7 P7' : Int32 → Int32 → Int32 → Ix → Lx → Prop} (hQ : ∀ (r : Int32) (I1 : Ix) (L1 : Lx), FrI (wsI_X9_commonDivisor) (fsI_X9_commonDivisor) I0 I1 → FrL (wsL_X9_commonDivisor) (fsL_X9_commonDivisor) L0 L1 → Q r I1 L1 → Q' r I1 L1) (hP7 : ∀ (v2 : Int32) (v3 : Int32) (v4 : Int32) (I1 : Ix) (L1 : Lx), FrI (wsI_X9_commonDivisor) (fsI_X9_commonDivisor) I0 I1 → FrL (wsL_X9_commonDivisor) (fsL_X9_commonDivisor) L0 L1 → P7 v2 v3 v4 I1 L1 → P7' v2 v3 v4 I1 L1) {v2 : Int32} {v3 : Int32} {v4 : Int32} {I : Ix} {L : Lx} (hF : FrI (wsI_X9_commonDivisor) (fsI_X9_commonDivisor) I0 I) (hL : FrL (wsL_X9_commonDivisor) (fsL_X9_commonDivisor) L0 L) (h : wpX9_commonDivisor_l7 Q P7 v2 v3 v4 I L) : wpX9_commonDivisor_l7 Q' P7' v2 v3 v4 I L := by
  unfold wpX9_commonDivisor_l7 at h ⊢
  refine ⟨fun hc => ?_, fun hc => ?_⟩
  · have h := h.1 hc
    exact hQ _ _ _ hF hL h
  · have h := h.2 hc
    refine ⟨fun hc => ?_, fun hc => ?_⟩
    · have h := h.1 hc
      exact hQ _ _ _ hF hL h
    · have h := h.2 hc
      refine ⟨h.1, ?_⟩
      have h := h.2
      exact hP7 _ _ _ _ _ hF hL h
set_option maxRecDepth 10000 in
theorem mnX9_commonDivisor_h7 {I0 : Ix} {L0 : Lx} {Q Q' : Int32 → Ix → Lx → Prop} (hQ : ∀ (r : Int32) (I1 : Ix) (L1 : Lx), FrI (wsI_X9_commonDivisor) (fsI_X9_commonDivisor) I0 I1 → FrL (wsL_X9_commonDivisor) (fsL_X9_commonDivisor) L0 L1 → Q r I1 L1 → Q' r I1 L1) {v2 : Int32} {v3 : Int32} {v4 : Int32} {I : Ix} {L : Lx} (hF : FrI (wsI_X9_commonDivisor) (fsI_X9_commonDivisor) I0 I) (hL : FrL (wsL_X9_commonDivisor) (fsL_X9_commonDivisor) L0 L) (h : wpX9_commonDivisor_h7 Q v2 v3 v4 I L) : wpX9_commonDivisor_h7 Q' v2 v3 v4 I L := by
  unfold wpX9_commonDivisor_h7 at h
  refine Lfp.ind (P := fun z => FrI (wsI_X9_commonDivisor) (fsI_X9_commonDivisor) I0 z.2.2.2.1 → FrL (wsL_X9_commonDivisor) (fsL_X9_commonDivisor) L0 z.2.2.2.2 → wpX9_commonDivisor_h7 Q' z.1 z.2.1 z.2.2.1 z.2.2.2.1 z.2.2.2.2) ?_ h hF hL
  intro z P' hP' h hF hL
  obtain ⟨v2, v3, v4, I, L⟩ := z
  exact wpX9_commonDivisor_h7_fold (mnX9_commonDivisor_l7 hQ (fun v2 v3 v4 I L hF hL h9 => hP' (v2, v3, v4, I, L) h9 hF hL) hF hL h)
set_option maxRecDepth 10000 in
theorem mnX9_commonDivisor {a0 : Int32} {a1 : Int32} {I : Ix} {L : Lx} {Q Q' : Int32 → Ix → Lx → Prop} (hQ : ∀ (r : Int32) (I1 : Ix) (L1 : Lx), FrI (wsI_X9_commonDivisor) (fsI_X9_commonDivisor) I I1 → FrL (wsL_X9_commonDivisor) (fsL_X9_commonDivisor) L L1 → Q r I1 L1 → Q' r I1 L1) (h : wpX9_commonDivisor a0 a1 I L Q) : wpX9_commonDivisor a0 a1 I L Q' := by
  have hF : FrI (wsI_X9_commonDivisor) (fsI_X9_commonDivisor) I I := FrI.rf
  have hL : FrL (wsL_X9_commonDivisor) (fsL_X9_commonDivisor) L L := FrL.rf
  unfold wpX9_commonDivisor at h ⊢
  exact mnX9_commonDivisor_h7 hQ hF hL h
abbrev wsI_X2_copyFrom (o0 o1 : Nat) : List Nat := [o0 + 6, o0 + 7, o0 + 8, o0 + 5, o0 + 1, o0 + 2, o0 + 3, o0 + 4]
abbrev wsL_X2_copyFrom (o0 o1 : Nat) : List Nat := []
abbrev fsI_X2_copyFrom (o0 o1 : Nat) : List (Nat × Nat) := [(o0, 0), (o0, 1), (o0, 2)]
abbrev fsL_X2_copyFrom (o0 o1 : Nat) : List (Nat × Nat) := []
set_option maxRecDepth 10000 in
theorem mnX2_copyFrom_l86 {o0 : Nat} {o1 : Nat} {I0 : Ix} {L0 : Lx} {Q Q' : Ix → Lx → Prop} {P86 P86' : Int32 → Ix → Lx → Prop} (hQ : ∀ (I1 : Ix) (L1 : Lx), FrI (wsI_X2_copyFrom o0 o1) (fsI_X2_copyFrom o0 o1) I0 I1 → FrL (wsL_X2_copyFrom o0 o1) (fsL_X2_copyFrom o0 o1) L0 L1 → Q I1 L1 → Q' I1 L1) (hP86 : ∀ (v2 : Int32) (I1 : Ix) (L1 : Lx), FrI (wsI_X2_copyFrom o0 o1) (fsI_X2_copyFrom o0 o1) I0 I1 → FrL (wsL_X2_copyFrom o0 o1) (fsL_X2_copyFrom o0 o1) L0 L1 → P86 v2 I1 L1 → P86' v2 I1 L1) {v2 : Int32} {I : Ix} {L : Lx} (hF : FrI (wsI_X2_copyFrom o0 o1) (fsI_X2_copyFrom o0 o1) I0 I) (hL : FrL (wsL_X2_copyFrom o0 o1) (fsL_X2_copyFrom o0 o1) L0 L) (h : wpX2_copyFrom_l86 o0 o1 Q P86 v2 I L) : wpX2_copyFrom_l86 o0 o1 Q' P86' v2 I L := by
  unfold wpX2_copyFrom_l86 at h ⊢
  refine ⟨fun hc => ?_, fun hc => ?_⟩
  · have h := h.1 hc
    intro I1 eI1
    have h := h I1 eI1
    have hF := hF.up eI1 (by simp)
    intro I2 eI2
    have h := h I2 eI2
    have hF := hF.up eI2 (by simp)
    intro I3 eI3
    have h := h I3 eI3
    have hF := hF.up eI3 (by simp)
    exact hQ _ _ hF hL h
  · have h := h.2 hc
    refine ⟨h.1, ?_⟩
    have h := h.2
    refine ⟨h.1, ?_⟩
    have h := h.2
    intro I4 eI4
    have h := h I4 eI4
    have hF := hF.pw eI4 (by simp)
    exact hP86 _ _ _ hF hL h
set_option maxRecDepth 10000 in
theorem mnX2_copyFrom_h86 {o0 : Nat} {o1 : Nat} {I0 : Ix} {L0 : Lx} {Q Q' : Ix → Lx → Prop} (hQ : ∀ (I1 : Ix) (L1 : Lx), FrI (wsI_X2_copyFrom o0 o1) (fsI_X2_copyFrom o0 o1) I0 I1 → FrL (wsL_X2_copyFrom o0 o1) (fsL_X2_copyFrom o0 o1) L0 L1 → Q I1 L1 → Q' I1 L1) {v2 : Int32} {I : Ix} {L : Lx} (hF : FrI (wsI_X2_copyFrom o0 o1) (fsI_X2_copyFrom o0 o1) I0 I) (hL : FrL (wsL_X2_copyFrom o0 o1) (fsL_X2_copyFrom o0 o1) L0 L) (h : wpX2_copyFrom_h86 o0 o1 Q v2 I L) : wpX2_copyFrom_h86 o0 o1 Q' v2 I L := by
  unfold wpX2_copyFrom_h86 at h
  refine Lfp.ind (P := fun z => FrI (wsI_X2_copyFrom o0 o1) (fsI_X2_copyFrom o0 o1) I0 z.2.1 → FrL (wsL_X2_copyFrom o0 o1) (fsL_X2_copyFrom o0 o1) L0 z.2.2 → wpX2_copyFrom_h86 o0 o1 Q' z.1 z.2.1 z.2.2) ?_ h hF hL
  intro z P' hP' h hF hL
  obtain ⟨v2, I, L⟩ := z
  exact wpX2_copyFrom_h86_fold (mnX2_copyFrom_l86 hQ (fun v2 I L hF hL h9 => hP' (v2, I, L) h9 hF hL) hF hL h)
set_option maxRecDepth 10000 in
theorem mnX2_copyFrom {o0 : Nat} {o1 : Nat} {I : Ix} {L : Lx} {Q Q' : Ix → Lx → Prop} (hQ : ∀ (I1 : Ix) (L1 : Lx), FrI (wsI_X2_copyFrom o0 o1) (fsI_X2_copyFrom o0 o1) I I1 → FrL (wsL_X2_copyFrom o0 o1) (fsL_X2_copyFrom o0 o1) L L1 → Q I1 L1 → Q' I1 L1) (h : wpX2_copyFrom o0 o1 I L Q) : wpX2_copyFrom o0 o1 I L Q' := by
  have hF : FrI (wsI_X2_copyFrom o0 o1) (fsI_X2_copyFrom o0 o1) I I := FrI.rf
  have hL : FrL (wsL_X2_copyFrom o0 o1) (fsL_X2_copyFrom o0 o1) L L := FrL.rf
  unfold wpX2_copyFrom at h ⊢
  intro I1 eI1
  have h := h I1 eI1
  have hF := hF.pf eI1 (by simp)
  intro I2 eI2
  have h := h I2 eI2
  have hF := hF.pf eI2 (by simp)
  intro I3 eI3
  have h := h I3 eI3
  have hF := hF.pf eI3 (by simp)
  intro I4 eI4
  have h := h I4 eI4
  have hF := hF.up eI4 (by simp)
  intro I5 eI5
  have h := h I5 eI5
  have hF := hF.up eI5 (by simp)
  intro I6 eI6
  have h := h I6 eI6
  have hF := hF.up eI6 (by simp)
  intro I7 eI7
  have h := h I7 eI7
  have hF := hF.up eI7 (by simp)
  exact mnX2_copyFrom_h86 hQ hF hL h
abbrev wsI_X9_beginDay (o1 : Nat) : List Nat := [74, 76, 77, 78, 75, 71, 72, 73]
abbrev wsL_X9_beginDay (o1 : Nat) : List Nat := []
abbrev fsI_X9_beginDay (o1 : Nat) : List (Nat × Nat) := [(70, 0), (70, 1), (70, 2)]
abbrev fsL_X9_beginDay (o1 : Nat) : List (Nat × Nat) := []
set_option maxRecDepth 10000 in
theorem mnX9_beginDay {o1 : Nat} {a2 : Int32} {a3 : Int32} {I : Ix} {L : Lx} {Q Q' : Ix → Lx → Prop} (hQ : ∀ (I1 : Ix) (L1 : Lx), FrI (wsI_X9_beginDay o1) (fsI_X9_beginDay o1) I I1 → FrL (wsL_X9_beginDay o1) (fsL_X9_beginDay o1) L L1 → Q I1 L1 → Q' I1 L1) (h : wpX9_beginDay o1 a2 a3 I L Q) : wpX9_beginDay o1 a2 a3 I L Q' := by
  have hF : FrI (wsI_X9_beginDay o1) (fsI_X9_beginDay o1) I I := FrI.rf
  have hL : FrL (wsL_X9_beginDay o1) (fsL_X9_beginDay o1) L L := FrL.rf
  unfold wpX9_beginDay at h ⊢
  refine mnX2_copyFrom (fun I1 L2 hf hl h => ?_) h
  have hF := hF.tr hf (by intro k hk; first | (simp only [List.mem_cons, List.not_mem_nil, or_false] at hk ⊢; omega) | (simp at hk; done) | (simp at hk ⊢; omega)) (by intro q hq; obtain ⟨k, j⟩ := q; first | (simp only [List.mem_cons, List.not_mem_nil, or_false, Prod.mk.injEq] at hq ⊢; omega) | (simp at hq; done))
  have hL := hL.tr hl (by intro k hk; first | (simp only [List.mem_cons, List.not_mem_nil, or_false] at hk ⊢; omega) | (simp at hk; done) | (simp at hk ⊢; omega)) (by intro q hq; obtain ⟨k, j⟩ := q; first | (simp only [List.mem_cons, List.not_mem_nil, or_false, Prod.mk.injEq] at hq ⊢; omega) | (simp at hq; done))
  refine ⟨h.1, ?_⟩
  have h := h.2
  refine ⟨h.1, ?_⟩
  have h := h.2
  intro I3 eI3
  have h := h I3 eI3
  have hF := hF.pw eI3 (by simp)
  refine mnX0_use (fun r6 I4 L5 hf hl h => ?_) h
  have hF := hF.tr hf (by intro k hk; first | (simp only [List.mem_cons, List.not_mem_nil, or_false] at hk ⊢; omega) | (simp at hk; done) | (simp at hk ⊢; omega)) (by intro q hq; obtain ⟨k, j⟩ := q; first | (simp only [List.mem_cons, List.not_mem_nil, or_false, Prod.mk.injEq] at hq ⊢; omega) | (simp at hq; done))
  have hL := hL.tr hl (by intro k hk; first | (simp only [List.mem_cons, List.not_mem_nil, or_false] at hk ⊢; omega) | (simp at hk; done) | (simp at hk ⊢; omega)) (by intro q hq; obtain ⟨k, j⟩ := q; first | (simp only [List.mem_cons, List.not_mem_nil, or_false, Prod.mk.injEq] at hq ⊢; omega) | (simp at hq; done))
  refine mnX0_mend (fun I7 L8 hf hl h => ?_) h
  have hF := hF.tr hf (by intro k hk; first | (simp only [List.mem_cons, List.not_mem_nil, or_false] at hk ⊢; omega) | (simp at hk; done) | (simp at hk ⊢; omega)) (by intro q hq; obtain ⟨k, j⟩ := q; first | (simp only [List.mem_cons, List.not_mem_nil, or_false, Prod.mk.injEq] at hq ⊢; omega) | (simp at hq; done))
  have hL := hL.tr hl (by intro k hk; first | (simp only [List.mem_cons, List.not_mem_nil, or_false] at hk ⊢; omega) | (simp at hk; done) | (simp at hk ⊢; omega)) (by intro q hq; obtain ⟨k, j⟩ := q; first | (simp only [List.mem_cons, List.not_mem_nil, or_false, Prod.mk.injEq] at hq ⊢; omega) | (simp at hq; done))
  exact hQ _ _ hF hL h
abbrev wsI_X9_isHis : List Nat := []
abbrev wsL_X9_isHis : List Nat := []
abbrev fsI_X9_isHis : List (Nat × Nat) := []
abbrev fsL_X9_isHis : List (Nat × Nat) := []
set_option maxRecDepth 10000 in
theorem mnX9_isHis {a1 : Int32} {a2 : Int32} {I : Ix} {L : Lx} {Q Q' : Bool → Ix → Lx → Prop} (hQ : ∀ (r : Bool) (I1 : Ix) (L1 : Lx), FrI (wsI_X9_isHis) (fsI_X9_isHis) I I1 → FrL (wsL_X9_isHis) (fsL_X9_isHis) L L1 → Q r I1 L1 → Q' r I1 L1) (h : wpX9_isHis a1 a2 I L Q) : wpX9_isHis a1 a2 I L Q' := by
  have hF : FrI (wsI_X9_isHis) (fsI_X9_isHis) I I := FrI.rf
  have hL : FrL (wsL_X9_isHis) (fsL_X9_isHis) L L := FrL.rf
  unfold wpX9_isHis at h ⊢
  refine mnX9_isDrawn (fun r3 I1 L2 hf hl h => ?_) h
  have hF := hF.tr hf (by decide) (by decide)
  have hL := hL.tr hl (by decide) (by decide)
  refine ⟨fun hc => ?_, fun hc => ?_⟩
  · have h := h.1 hc
    refine ⟨h.1, ?_⟩
    have h := h.2
    refine ⟨fun hc => ?_, fun hc => ?_⟩
    · have h := h.1 hc
      exact hQ _ _ _ hF hL h
    · have h := h.2 hc
      exact hQ _ _ _ hF hL h
  · have h := h.2 hc
    refine ⟨fun hc => ?_, fun hc => ?_⟩
    · have h := h.1 hc
      exact hQ _ _ _ hF hL h
    · have h := h.2 hc
      refine ⟨h.1, ?_⟩
      have h := h.2
      refine ⟨fun hc => ?_, fun hc => ?_⟩
      · have h := h.1 hc
        exact hQ _ _ _ hF hL h
      · have h := h.2 hc
        exact hQ _ _ _ hF hL h
abbrev wsI_X9_weigh (o1 : Nat) : List Nat := [74, 76, 77, 78, 75, 71, 72, 73, 66, 67, 63, 14, 68, 64, 65]
abbrev wsL_X9_weigh (o1 : Nat) : List Nat := []
abbrev fsI_X9_weigh (o1 : Nat) : List (Nat × Nat) := [(69, 4), (69, 5), (70, 0), (70, 1), (70, 2)]
abbrev fsL_X9_weigh (o1 : Nat) : List (Nat × Nat) := []
set_option maxRecDepth 10000 in
theorem mnX9_weigh_b105 {o1 : Nat} {I0 : Ix} {L0 : Lx} {Q Q' : Bool → Ix → Lx → Prop} (hQ : ∀ (r : Bool) (I1 : Ix) (L1 : Lx), FrI (wsI_X9_weigh o1) (fsI_X9_weigh o1) I0 I1 → FrL (wsL_X9_weigh o1) (fsL_X9_weigh o1) L0 L1 → Q r I1 L1 → Q' r I1 L1) {v2 : Int32} {v5 : Int32} {v6 : Int32} {t0 : Int32} {I : Ix} {L : Lx} (hF : FrI (wsI_X9_weigh o1) (fsI_X9_weigh o1) I0 I) (hL : FrL (wsL_X9_weigh o1) (fsL_X9_weigh o1) L0 L) (h : wpX9_weigh_b105 o1 Q v2 v5 v6 t0 I L) : wpX9_weigh_b105 o1 Q' v2 v5 v6 t0 I L := by
  unfold wpX9_weigh_b105 at h ⊢
  refine mnX9_lotsFor (fun r3 I1 L2 hf hl h => ?_) h
  have hF := hF.tr hf (by intro k hk; first | (simp only [List.mem_cons, List.not_mem_nil, or_false] at hk ⊢; omega) | (simp at hk; done) | (simp at hk ⊢; omega)) (by intro q hq; obtain ⟨k, j⟩ := q; first | (simp only [List.mem_cons, List.not_mem_nil, or_false, Prod.mk.injEq] at hq ⊢; omega) | (simp at hq; done))
  have hL := hL.tr hl (by intro k hk; first | (simp only [List.mem_cons, List.not_mem_nil, or_false] at hk ⊢; omega) | (simp at hk; done) | (simp at hk ⊢; omega)) (by intro q hq; obtain ⟨k, j⟩ := q; first | (simp only [List.mem_cons, List.not_mem_nil, or_false, Prod.mk.injEq] at hq ⊢; omega) | (simp at hq; done))
  intro I4 eI4
  have h := h I4 eI4
  have hF := hF.pf eI4 (by simp)
  intro I5 eI5
  have h := h I5 eI5
  have hF := hF.pf eI5 (by simp)
  refine mnX9_commonDivisor (fun r8 I6 L7 hf hl h => ?_) h
  have hF := hF.tr hf (by intro k hk; first | (simp only [List.mem_cons, List.not_mem_nil, or_false] at hk ⊢; omega) | (simp at hk; done) | (simp at hk ⊢; omega)) (by intro q hq; obtain ⟨k, j⟩ := q; first | (simp only [List.mem_cons, List.not_mem_nil, or_false, Prod.mk.injEq] at hq ⊢; omega) | (simp at hq; done))
  have hL := hL.tr hl (by intro k hk; first | (simp only [List.mem_cons, List.not_mem_nil, or_false] at hk ⊢; omega) | (simp at hk; done) | (simp at hk ⊢; omega)) (by intro q hq; obtain ⟨k, j⟩ := q; first | (simp only [List.mem_cons, List.not_mem_nil, or_false, Prod.mk.injEq] at hq ⊢; omega) | (simp at hq; done))
  refine ⟨fun hc => ?_, fun hc => ?_⟩
  · have h := h.1 hc
    exact hQ _ _ _ hF hL h
  · have h := h.2 hc
    refine ⟨h.1, ?_⟩
    have h := h.2
    intro I9 eI9
    have h := h I9 eI9
    have hF := hF.pf eI9 (by simp)
    refine ⟨h.1, ?_⟩
    have h := h.2
    intro I10 eI10
    have h := h I10 eI10
    have hF := hF.pf eI10 (by simp)
    exact hQ _ _ _ hF hL h
set_option maxRecDepth 10000 in
theorem mnX9_weigh_b55 {o1 : Nat} {I0 : Ix} {L0 : Lx} {Q Q' : Bool → Ix → Lx → Prop} (hQ : ∀ (r : Bool) (I1 : Ix) (L1 : Lx), FrI (wsI_X9_weigh o1) (fsI_X9_weigh o1) I0 I1 → FrL (wsL_X9_weigh o1) (fsL_X9_weigh o1) L0 L1 → Q r I1 L1 → Q' r I1 L1) {v2 : Int32} {v3 : Int32} {v4 : Int32} {t0 : Int32} {I : Ix} {L : Lx} (hF : FrI (wsI_X9_weigh o1) (fsI_X9_weigh o1) I0 I) (hL : FrL (wsL_X9_weigh o1) (fsL_X9_weigh o1) L0 L) (h : wpX9_weigh_b55 o1 Q v2 v3 v4 t0 I L) : wpX9_weigh_b55 o1 Q' v2 v3 v4 t0 I L := by
  unfold wpX9_weigh_b55 at h ⊢
  refine mnX9_lotsFor (fun r3 I1 L2 hf hl h => ?_) h
  have hF := hF.tr hf (by intro k hk; first | (simp only [List.mem_cons, List.not_mem_nil, or_false] at hk ⊢; omega) | (simp at hk; done) | (simp at hk ⊢; omega)) (by intro q hq; obtain ⟨k, j⟩ := q; first | (simp only [List.mem_cons, List.not_mem_nil, or_false, Prod.mk.injEq] at hq ⊢; omega) | (simp at hq; done))
  have hL := hL.tr hl (by intro k hk; first | (simp only [List.mem_cons, List.not_mem_nil, or_false] at hk ⊢; omega) | (simp at hk; done) | (simp at hk ⊢; omega)) (by intro q hq; obtain ⟨k, j⟩ := q; first | (simp only [List.mem_cons, List.not_mem_nil, or_false, Prod.mk.injEq] at hq ⊢; omega) | (simp at hq; done))
  refine mnX9_beginDay (fun I4 L5 hf hl h => ?_) h
  have hF := hF.tr hf (by intro k hk; first | (simp only [List.mem_cons, List.not_mem_nil, or_false] at hk ⊢; omega) | (simp at hk; done) | (simp at hk ⊢; omega)) (by intro q hq; obtain ⟨k, j⟩ := q; first | (simp only [List.mem_cons, List.not_mem_nil, or_false, Prod.mk.injEq] at hq ⊢; omega) | (simp at hq; done))
  have hL := hL.tr hl (by intro k hk; first | (simp only [List.mem_cons, List.not_mem_nil, or_false] at hk ⊢; omega) | (simp at hk; done) | (simp at hk ⊢; omega)) (by intro q hq; obtain ⟨k, j⟩ := q; first | (simp only [List.mem_cons, List.not_mem_nil, or_false, Prod.mk.injEq] at hq ⊢; omega) | (simp at hq; done))
  refine mnX0_noons (fun I6 L7 hf hl h => ?_) h
  have hF := hF.tr hf (by intro k hk; first | (simp only [List.mem_cons, List.not_mem_nil, or_false] at hk ⊢; omega) | (simp at hk; done) | (simp at hk ⊢; omega)) (by intro q hq; obtain ⟨k, j⟩ := q; first | (simp only [List.mem_cons, List.not_mem_nil, or_false, Prod.mk.injEq] at hq ⊢; omega) | (simp at hq; done))
  have hL := hL.tr hl (by intro k hk; first | (simp only [List.mem_cons, List.not_mem_nil, or_false] at hk ⊢; omega) | (simp at hk; done) | (simp at hk ⊢; omega)) (by intro q hq; obtain ⟨k, j⟩ := q; first | (simp only [List.mem_cons, List.not_mem_nil, or_false, Prod.mk.injEq] at hq ⊢; omega) | (simp at hq; done))
  refine mnX9_isHis (fun r10 I8 L9 hf hl h => ?_) h
  have hF := hF.tr hf (by intro k hk; first | (simp only [List.mem_cons, List.not_mem_nil, or_false] at hk ⊢; omega) | (simp at hk; done) | (simp at hk ⊢; omega)) (by intro q hq; obtain ⟨k, j⟩ := q; first | (simp only [List.mem_cons, List.not_mem_nil, or_false, Prod.mk.injEq] at hq ⊢; omega) | (simp at hq; done))
  have hL := hL.tr hl (by intro k hk; first | (simp only [List.mem_cons, List.not_mem_nil, or_false] at hk ⊢; omega) | (simp at hk; done) | (simp at hk ⊢; omega)) (by intro q hq; obtain ⟨k, j⟩ := q; first | (simp only [List.mem_cons, List.not_mem_nil, or_false, Prod.mk.injEq] at hq ⊢; omega) | (simp at hq; done))
  refine ⟨fun hc => ?_, fun hc => ?_⟩
  · have h := h.1 hc
    exact mnX9_weigh_b105 hQ hF hL h
  · have h := h.2 hc
    exact mnX9_weigh_b105 hQ hF hL h
set_option maxRecDepth 10000 in
theorem mnX9_weigh {o1 : Nat} {a2 : Int32} {a3 : Int32} {a4 : Int32} {I : Ix} {L : Lx} {Q Q' : Bool → Ix → Lx → Prop} (hQ : ∀ (r : Bool) (I1 : Ix) (L1 : Lx), FrI (wsI_X9_weigh o1) (fsI_X9_weigh o1) I I1 → FrL (wsL_X9_weigh o1) (fsL_X9_weigh o1) L L1 → Q r I1 L1 → Q' r I1 L1) (h : wpX9_weigh o1 a2 a3 a4 I L Q) : wpX9_weigh o1 a2 a3 a4 I L Q' := by
  have hF : FrI (wsI_X9_weigh o1) (fsI_X9_weigh o1) I I := FrI.rf
  have hL : FrL (wsL_X9_weigh o1) (fsL_X9_weigh o1) L L := FrL.rf
  unfold wpX9_weigh at h ⊢
  refine mnX9_beginDay (fun I1 L2 hf hl h => ?_) h
  have hF := hF.tr hf (by intro k hk; first | (simp only [List.mem_cons, List.not_mem_nil, or_false] at hk ⊢; omega) | (simp at hk; done) | (simp at hk ⊢; omega)) (by intro q hq; obtain ⟨k, j⟩ := q; first | (simp only [List.mem_cons, List.not_mem_nil, or_false, Prod.mk.injEq] at hq ⊢; omega) | (simp at hq; done))
  have hL := hL.tr hl (by intro k hk; first | (simp only [List.mem_cons, List.not_mem_nil, or_false] at hk ⊢; omega) | (simp at hk; done) | (simp at hk ⊢; omega)) (by intro q hq; obtain ⟨k, j⟩ := q; first | (simp only [List.mem_cons, List.not_mem_nil, or_false, Prod.mk.injEq] at hq ⊢; omega) | (simp at hq; done))
  refine ⟨h.1, ?_⟩
  have h := h.2
  refine ⟨fun hc => ?_, fun hc => ?_⟩
  · have h := h.1 hc
    refine mnX0_noons (fun I3 L4 hf hl h => ?_) h
    have hF := hF.tr hf (by intro k hk; first | (simp only [List.mem_cons, List.not_mem_nil, or_false] at hk ⊢; omega) | (simp at hk; done) | (simp at hk ⊢; omega)) (by intro q hq; obtain ⟨k, j⟩ := q; first | (simp only [List.mem_cons, List.not_mem_nil, or_false, Prod.mk.injEq] at hq ⊢; omega) | (simp at hq; done))
    have hL := hL.tr hl (by intro k hk; first | (simp only [List.mem_cons, List.not_mem_nil, or_false] at hk ⊢; omega) | (simp at hk; done) | (simp at hk ⊢; omega)) (by intro q hq; obtain ⟨k, j⟩ := q; first | (simp only [List.mem_cons, List.not_mem_nil, or_false, Prod.mk.injEq] at hq ⊢; omega) | (simp at hq; done))
    refine mnX9_isHis (fun r7 I5 L6 hf hl h => ?_) h
    have hF := hF.tr hf (by intro k hk; first | (simp only [List.mem_cons, List.not_mem_nil, or_false] at hk ⊢; omega) | (simp at hk; done) | (simp at hk ⊢; omega)) (by intro q hq; obtain ⟨k, j⟩ := q; first | (simp only [List.mem_cons, List.not_mem_nil, or_false, Prod.mk.injEq] at hq ⊢; omega) | (simp at hq; done))
    have hL := hL.tr hl (by intro k hk; first | (simp only [List.mem_cons, List.not_mem_nil, or_false] at hk ⊢; omega) | (simp at hk; done) | (simp at hk ⊢; omega)) (by intro q hq; obtain ⟨k, j⟩ := q; first | (simp only [List.mem_cons, List.not_mem_nil, or_false, Prod.mk.injEq] at hq ⊢; omega) | (simp at hq; done))
    refine ⟨fun hc => ?_, fun hc => ?_⟩
    · have h := h.1 hc
      exact mnX9_weigh_b55 hQ hF hL h
    · have h := h.2 hc
      exact mnX9_weigh_b55 hQ hF hL h
  · have h := h.2 hc
    exact hQ _ _ _ hF hL h
abbrev wsI_X11_chance : List Nat := [74, 76, 77, 78, 75, 71, 72, 73, 66, 67, 63, 14, 68, 64, 65]
abbrev wsL_X11_chance : List Nat := []
abbrev fsI_X11_chance : List (Nat × Nat) := [(69, 4), (69, 5), (70, 0), (70, 1), (70, 2)]
abbrev fsL_X11_chance : List (Nat × Nat) := []
set_option maxRecDepth 10000 in
theorem mnX11_chance {a1 : Int32} {a2 : Int32} {a3 : Int32} {I : Ix} {L : Lx} {Q Q' : Int32 → Ix → Lx → Prop} (hQ : ∀ (r : Int32) (I1 : Ix) (L1 : Lx), FrI (wsI_X11_chance) (fsI_X11_chance) I I1 → FrL (wsL_X11_chance) (fsL_X11_chance) L L1 → Q r I1 L1 → Q' r I1 L1) (h : wpX11_chance a1 a2 a3 I L Q) : wpX11_chance a1 a2 a3 I L Q' := by
  have hF : FrI (wsI_X11_chance) (fsI_X11_chance) I I := FrI.rf
  have hL : FrL (wsL_X11_chance) (fsL_X11_chance) L L := FrL.rf
  unfold wpX11_chance at h ⊢
  refine mnX11_isThing (fun r3 I1 L2 hf hl h => ?_) h
  have hF := hF.tr hf (by decide) (by decide)
  have hL := hL.tr hl (by decide) (by decide)
  refine ⟨fun hc => ?_, fun hc => ?_⟩
  · have h := h.1 hc
    exact hQ _ _ _ hF hL h
  · have h := h.2 hc
    refine mnX11_isPersonOrNobody (fun r6 I4 L5 hf hl h => ?_) h
    have hF := hF.tr hf (by decide) (by decide)
    have hL := hL.tr hl (by decide) (by decide)
    refine ⟨fun hc => ?_, fun hc => ?_⟩
    · have h := h.1 hc
      exact hQ _ _ _ hF hL h
    · have h := h.2 hc
      refine ⟨fun hc => ?_, fun hc => ?_⟩
      · have h := h.1 hc
        exact hQ _ _ _ hF hL h
      · have h := h.2 hc
        refine ⟨fun hc => ?_, fun hc => ?_⟩
        · have h := h.1 hc
          refine mnX9_weigh (fun r9 I7 L8 hf hl h => ?_) h
          have hF := hF.tr hf (by decide) (by decide)
          have hL := hL.tr hl (by decide) (by decide)
          refine ⟨fun hc => ?_, fun hc => ?_⟩
          · have h := h.1 hc
            refine ⟨fun hc => ?_, fun hc => ?_⟩
            · have h := h.1 hc
              exact hQ _ _ _ hF hL h
            · have h := h.2 hc
              exact hQ _ _ _ hF hL h
          · have h := h.2 hc
            exact hQ _ _ _ hF hL h
        · have h := h.2 hc
          exact hQ _ _ _ hF hL h
abbrev wsI_X5_isSpent : List Nat := []
abbrev wsL_X5_isSpent : List Nat := []
abbrev fsI_X5_isSpent : List (Nat × Nat) := []
abbrev fsL_X5_isSpent : List (Nat × Nat) := []
set_option maxRecDepth 10000 in
theorem mnX5_isSpent_l4 {I0 : Ix} {L0 : Lx} {Q Q' : Bool → Ix → Lx → Prop} {P4 P4' : Int32 → Int32 → Ix → Lx → Prop} (hQ : ∀ (r : Bool) (I1 : Ix) (L1 : Lx), FrI (wsI_X5_isSpent) (fsI_X5_isSpent) I0 I1 → FrL (wsL_X5_isSpent) (fsL_X5_isSpent) L0 L1 → Q r I1 L1 → Q' r I1 L1) (hP4 : ∀ (v1 : Int32) (v2 : Int32) (I1 : Ix) (L1 : Lx), FrI (wsI_X5_isSpent) (fsI_X5_isSpent) I0 I1 → FrL (wsL_X5_isSpent) (fsL_X5_isSpent) L0 L1 → P4 v1 v2 I1 L1 → P4' v1 v2 I1 L1) {v1 : Int32} {v2 : Int32} {I : Ix} {L : Lx} (hF : FrI (wsI_X5_isSpent) (fsI_X5_isSpent) I0 I) (hL : FrL (wsL_X5_isSpent) (fsL_X5_isSpent) L0 L) (h : wpX5_isSpent_l4 Q P4 v1 v2 I L) : wpX5_isSpent_l4 Q' P4' v1 v2 I L := by
  unfold wpX5_isSpent_l4 at h ⊢
  refine ⟨fun hc => ?_, fun hc => ?_⟩
  · have h := h.1 hc
    refine ⟨fun hc => ?_, fun hc => ?_⟩
    · have h := h.1 hc
      exact hQ _ _ _ hF hL h
    · have h := h.2 hc
      exact hQ _ _ _ hF hL h
  · have h := h.2 hc
    exact hP4 _ _ _ _ hF hL h
set_option maxRecDepth 10000 in
theorem mnX5_isSpent_h4 {I0 : Ix} {L0 : Lx} {Q Q' : Bool → Ix → Lx → Prop} (hQ : ∀ (r : Bool) (I1 : Ix) (L1 : Lx), FrI (wsI_X5_isSpent) (fsI_X5_isSpent) I0 I1 → FrL (wsL_X5_isSpent) (fsL_X5_isSpent) L0 L1 → Q r I1 L1 → Q' r I1 L1) {v1 : Int32} {v2 : Int32} {I : Ix} {L : Lx} (hF : FrI (wsI_X5_isSpent) (fsI_X5_isSpent) I0 I) (hL : FrL (wsL_X5_isSpent) (fsL_X5_isSpent) L0 L) (h : wpX5_isSpent_h4 Q v1 v2 I L) : wpX5_isSpent_h4 Q' v1 v2 I L := by
  unfold wpX5_isSpent_h4 at h
  refine Lfp.ind (P := fun z => FrI (wsI_X5_isSpent) (fsI_X5_isSpent) I0 z.2.2.1 → FrL (wsL_X5_isSpent) (fsL_X5_isSpent) L0 z.2.2.2 → wpX5_isSpent_h4 Q' z.1 z.2.1 z.2.2.1 z.2.2.2) ?_ h hF hL
  intro z P' hP' h hF hL
  obtain ⟨v1, v2, I, L⟩ := z
  exact wpX5_isSpent_h4_fold (mnX5_isSpent_l4 hQ (fun v1 v2 I L hF hL h9 => hP' (v1, v2, I, L) h9 hF hL) hF hL h)
set_option maxRecDepth 10000 in
theorem mnX5_isSpent {I : Ix} {L : Lx} {Q Q' : Bool → Ix → Lx → Prop} (hQ : ∀ (r : Bool) (I1 : Ix) (L1 : Lx), FrI (wsI_X5_isSpent) (fsI_X5_isSpent) I I1 → FrL (wsL_X5_isSpent) (fsL_X5_isSpent) L L1 → Q r I1 L1 → Q' r I1 L1) (h : wpX5_isSpent I L Q) : wpX5_isSpent I L Q' := by
  have hF : FrI (wsI_X5_isSpent) (fsI_X5_isSpent) I I := FrI.rf
  have hL : FrL (wsL_X5_isSpent) (fsL_X5_isSpent) L L := FrL.rf
  unfold wpX5_isSpent at h ⊢
  exact mnX5_isSpent_h4 hQ hF hL h
abbrev wsI_X5_choiceOf : List Nat := []
abbrev wsL_X5_choiceOf : List Nat := []
abbrev fsI_X5_choiceOf : List (Nat × Nat) := []
abbrev fsL_X5_choiceOf : List (Nat × Nat) := []
set_option maxRecDepth 10000 in
theorem mnX5_choiceOf {a1 : Int32} {a2 : Int32} {I : Ix} {L : Lx} {Q Q' : Int32 → Ix → Lx → Prop} (hQ : ∀ (r : Int32) (I1 : Ix) (L1 : Lx), FrI (wsI_X5_choiceOf) (fsI_X5_choiceOf) I I1 → FrL (wsL_X5_choiceOf) (fsL_X5_choiceOf) L L1 → Q r I1 L1 → Q' r I1 L1) (h : wpX5_choiceOf a1 a2 I L Q) : wpX5_choiceOf a1 a2 I L Q' := by
  have hF : FrI (wsI_X5_choiceOf) (fsI_X5_choiceOf) I I := FrI.rf
  have hL : FrL (wsL_X5_choiceOf) (fsL_X5_choiceOf) L L := FrL.rf
  unfold wpX5_choiceOf at h ⊢
  refine ⟨h.1, ?_⟩
  have h := h.2
  exact hQ _ _ _ hF hL h
abbrev wsI_X5_choose : List Nat := [83, 84]
abbrev wsL_X5_choose : List Nat := []
abbrev fsI_X5_choose : List (Nat × Nat) := []
abbrev fsL_X5_choose : List (Nat × Nat) := []
set_option maxRecDepth 10000 in
theorem mnX5_choose {a1 : Int32} {a2 : Int32} {I : Ix} {L : Lx} {Q Q' : Ix → Lx → Prop} (hQ : ∀ (I1 : Ix) (L1 : Lx), FrI (wsI_X5_choose) (fsI_X5_choose) I I1 → FrL (wsL_X5_choose) (fsL_X5_choose) L L1 → Q I1 L1 → Q' I1 L1) (h : wpX5_choose a1 a2 I L Q) : wpX5_choose a1 a2 I L Q' := by
  have hF : FrI (wsI_X5_choose) (fsI_X5_choose) I I := FrI.rf
  have hL : FrL (wsL_X5_choose) (fsL_X5_choose) L L := FrL.rf
  unfold wpX5_choose at h ⊢
  refine ⟨h.1, ?_⟩
  have h := h.2
  intro I1 eI1
  have h := h I1 eI1
  have hF := hF.pw eI1 (by decide)
  refine mnX5_choiceOf (fun r4 I2 L3 hf hl h => ?_) h
  have hF := hF.tr hf (by decide) (by decide)
  have hL := hL.tr hl (by decide) (by decide)
  refine ⟨h.1, ?_⟩
  have h := h.2
  intro I5 eI5
  have h := h I5 eI5
  have hF := hF.pw eI5 (by decide)
  exact hQ _ _ hF hL h
abbrev wsI_X5_goOn : List Nat := [83, 84]
abbrev wsL_X5_goOn : List Nat := []
abbrev fsI_X5_goOn : List (Nat × Nat) := []
abbrev fsL_X5_goOn : List (Nat × Nat) := []
set_option maxRecDepth 10000 in
theorem mnX5_goOn_l10 {I0 : Ix} {L0 : Lx} {Q Q' : Bool → Ix → Lx → Prop} {P10 P10' : Int32 → Ix → Lx → Prop} (hQ : ∀ (r : Bool) (I1 : Ix) (L1 : Lx), FrI (wsI_X5_goOn) (fsI_X5_goOn) I0 I1 → FrL (wsL_X5_goOn) (fsL_X5_goOn) L0 L1 → Q r I1 L1 → Q' r I1 L1) (hP10 : ∀ (v1 : Int32) (I1 : Ix) (L1 : Lx), FrI (wsI_X5_goOn) (fsI_X5_goOn) I0 I1 → FrL (wsL_X5_goOn) (fsL_X5_goOn) L0 L1 → P10 v1 I1 L1 → P10' v1 I1 L1) {v1 : Int32} {I : Ix} {L : Lx} (hF : FrI (wsI_X5_goOn) (fsI_X5_goOn) I0 I) (hL : FrL (wsL_X5_goOn) (fsL_X5_goOn) L0 L) (h : wpX5_goOn_l10 Q P10 v1 I L) : wpX5_goOn_l10 Q' P10' v1 I L := by
  unfold wpX5_goOn_l10 at h ⊢
  refine ⟨fun hc => ?_, fun hc => ?_⟩
  · have h := h.1 hc
    exact hQ _ _ _ hF hL h
  · have h := h.2 hc
    refine ⟨h.1, ?_⟩
    have h := h.2
    refine ⟨h.1, ?_⟩
    have h := h.2
    refine ⟨fun hc => ?_, fun hc => ?_⟩
    · have h := h.1 hc
      refine mnX5_choose (fun I1 L2 hf hl h => ?_) h
      have hF := hF.tr hf (by decide) (by decide)
      have hL := hL.tr hl (by decide) (by decide)
      exact hP10 _ _ _ hF hL h
    · have h := h.2 hc
      refine ⟨h.1, ?_⟩
      have h := h.2
      refine mnX5_choose (fun I3 L4 hf hl h => ?_) h
      have hF := hF.tr hf (by decide) (by decide)
      have hL := hL.tr hl (by decide) (by decide)
      exact hQ _ _ _ hF hL h
set_option maxRecDepth 10000 in
theorem mnX5_goOn_h10 {I0 : Ix} {L0 : Lx} {Q Q' : Bool → Ix → Lx → Prop} (hQ : ∀ (r : Bool) (I1 : Ix) (L1 : Lx), FrI (wsI_X5_goOn) (fsI_X5_goOn) I0 I1 → FrL (wsL_X5_goOn) (fsL_X5_goOn) L0 L1 → Q r I1 L1 → Q' r I1 L1) {v1 : Int32} {I : Ix} {L : Lx} (hF : FrI (wsI_X5_goOn) (fsI_X5_goOn) I0 I) (hL : FrL (wsL_X5_goOn) (fsL_X5_goOn) L0 L) (h : wpX5_goOn_h10 Q v1 I L) : wpX5_goOn_h10 Q' v1 I L := by
  unfold wpX5_goOn_h10 at h
  refine Lfp.ind (P := fun z => FrI (wsI_X5_goOn) (fsI_X5_goOn) I0 z.2.1 → FrL (wsL_X5_goOn) (fsL_X5_goOn) L0 z.2.2 → wpX5_goOn_h10 Q' z.1 z.2.1 z.2.2) ?_ h hF hL
  intro z P' hP' h hF hL
  obtain ⟨v1, I, L⟩ := z
  exact wpX5_goOn_h10_fold (mnX5_goOn_l10 hQ (fun v1 I L hF hL h9 => hP' (v1, I, L) h9 hF hL) hF hL h)
set_option maxRecDepth 10000 in
theorem mnX5_goOn {I : Ix} {L : Lx} {Q Q' : Bool → Ix → Lx → Prop} (hQ : ∀ (r : Bool) (I1 : Ix) (L1 : Lx), FrI (wsI_X5_goOn) (fsI_X5_goOn) I I1 → FrL (wsL_X5_goOn) (fsL_X5_goOn) L L1 → Q r I1 L1 → Q' r I1 L1) (h : wpX5_goOn I L Q) : wpX5_goOn I L Q' := by
  have hF : FrI (wsI_X5_goOn) (fsI_X5_goOn) I I := FrI.rf
  have hL : FrL (wsL_X5_goOn) (fsL_X5_goOn) L L := FrL.rf
  unfold wpX5_goOn at h ⊢
  exact mnX5_goOn_h10 hQ hF hL h
abbrev wsI_X5_walk : List Nat := []
abbrev wsL_X5_walk : List Nat := []
abbrev fsI_X5_walk : List (Nat × Nat) := []
abbrev fsL_X5_walk : List (Nat × Nat) := []
set_option maxRecDepth 10000 in
theorem mnX5_walk {a1 : Int32} {a2 : Int32} {I : Ix} {L : Lx} {Q Q' : Int32 → Ix → Lx → Prop} (hQ : ∀ (r : Int32) (I1 : Ix) (L1 : Lx), FrI (wsI_X5_walk) (fsI_X5_walk) I I1 → FrL (wsL_X5_walk) (fsL_X5_walk) L L1 → Q r I1 L1 → Q' r I1 L1) (h : wpX5_walk a1 a2 I L Q) : wpX5_walk a1 a2 I L Q' := by
  have hF : FrI (wsI_X5_walk) (fsI_X5_walk) I I := FrI.rf
  have hL : FrL (wsL_X5_walk) (fsL_X5_walk) L L := FrL.rf
  unfold wpX5_walk at h ⊢
  refine ⟨h.1, ?_⟩
  have h := h.2
  refine ⟨h.1, ?_⟩
  have h := h.2
  refine mnX1_minutes_4 (fun r3 I1 L2 hf hl h => ?_) h
  have hF := hF.tr hf (by decide) (by decide)
  have hL := hL.tr hl (by decide) (by decide)
  exact hQ _ _ _ hF hL h
abbrev wsI_X5_isAhead : List Nat := []
abbrev wsL_X5_isAhead : List Nat := []
abbrev fsI_X5_isAhead : List (Nat × Nat) := []
abbrev fsL_X5_isAhead : List (Nat × Nat) := []
set_option maxRecDepth 10000 in
theorem mnX5_isAhead_b61 {I0 : Ix} {L0 : Lx} {Q Q' : Bool → Ix → Lx → Prop} (hQ : ∀ (r : Bool) (I1 : Ix) (L1 : Lx), FrI (wsI_X5_isAhead) (fsI_X5_isAhead) I0 I1 → FrL (wsL_X5_isAhead) (fsL_X5_isAhead) L0 L1 → Q r I1 L1 → Q' r I1 L1) {I : Ix} {L : Lx} (hF : FrI (wsI_X5_isAhead) (fsI_X5_isAhead) I0 I) (hL : FrL (wsL_X5_isAhead) (fsL_X5_isAhead) L0 L) (h : wpX5_isAhead_b61 Q I L) : wpX5_isAhead_b61 Q' I L := by
  unfold wpX5_isAhead_b61 at h ⊢
  exact hQ _ _ _ hF hL h
set_option maxRecDepth 10000 in
theorem mnX5_isAhead_b46 {I0 : Ix} {L0 : Lx} {Q Q' : Bool → Ix → Lx → Prop} (hQ : ∀ (r : Bool) (I1 : Ix) (L1 : Lx), FrI (wsI_X5_isAhead) (fsI_X5_isAhead) I0 I1 → FrL (wsL_X5_isAhead) (fsL_X5_isAhead) L0 L1 → Q r I1 L1 → Q' r I1 L1) {v1 : Int32} {v2 : Int32} {v4 : Int32} {I : Ix} {L : Lx} (hF : FrI (wsI_X5_isAhead) (fsI_X5_isAhead) I0 I) (hL : FrL (wsL_X5_isAhead) (fsL_X5_isAhead) L0 L) (h : wpX5_isAhead_b46 Q v1 v2 v4 I L) : wpX5_isAhead_b46 Q' v1 v2 v4 I L := by
  unfold wpX5_isAhead_b46 at h ⊢
  refine ⟨fun hc => ?_, fun hc => ?_⟩
  · have h := h.1 hc
    exact mnX5_isAhead_b61 hQ hF hL h
  · have h := h.2 hc
    refine ⟨fun hc => ?_, fun hc => ?_⟩
    · have h := h.1 hc
      exact hQ _ _ _ hF hL h
    · have h := h.2 hc
      refine ⟨fun hc => ?_, fun hc => ?_⟩
      · have h := h.1 hc
        exact hQ _ _ _ hF hL h
      · have h := h.2 hc
        exact mnX5_isAhead_b61 hQ hF hL h
set_option maxRecDepth 10000 in
theorem mnX5_isAhead {a1 : Int32} {a2 : Int32} {a3 : Int32} {I : Ix} {L : Lx} {Q Q' : Bool → Ix → Lx → Prop} (hQ : ∀ (r : Bool) (I1 : Ix) (L1 : Lx), FrI (wsI_X5_isAhead) (fsI_X5_isAhead) I I1 → FrL (wsL_X5_isAhead) (fsL_X5_isAhead) L L1 → Q r I1 L1 → Q' r I1 L1) (h : wpX5_isAhead a1 a2 a3 I L Q) : wpX5_isAhead a1 a2 a3 I L Q' := by
  have hF : FrI (wsI_X5_isAhead) (fsI_X5_isAhead) I I := FrI.rf
  have hL : FrL (wsL_X5_isAhead) (fsL_X5_isAhead) L L := FrL.rf
  unfold wpX5_isAhead at h ⊢
  refine ⟨h.1, ?_⟩
  have h := h.2
  refine ⟨h.1, ?_⟩
  have h := h.2
  refine ⟨fun hc => ?_, fun hc => ?_⟩
  · have h := h.1 hc
    exact mnX5_isAhead_b46 hQ hF hL h
  · have h := h.2 hc
    refine mnX5_walk (fun r3 I1 L2 hf hl h => ?_) h
    have hF := hF.tr hf (by decide) (by decide)
    have hL := hL.tr hl (by decide) (by decide)
    refine mnX5_walk (fun r6 I4 L5 hf hl h => ?_) h
    have hF := hF.tr hf (by decide) (by decide)
    have hL := hL.tr hl (by decide) (by decide)
    exact mnX5_isAhead_b46 hQ hF hL h
abbrev wsI_X5_payFor : List Nat := []
abbrev wsL_X5_payFor : List Nat := []
abbrev fsI_X5_payFor : List (Nat × Nat) := []
abbrev fsL_X5_payFor : List (Nat × Nat) := []
set_option maxRecDepth 10000 in
theorem mnX5_payFor_l48 {I0 : Ix} {L0 : Lx} {Q Q' : Int32 → Ix → Lx → Prop} {P48 P48' : Int32 → Int32 → Int32 → Int32 → Int32 → Ix → Lx → Prop} (hQ : ∀ (r : Int32) (I1 : Ix) (L1 : Lx), FrI (wsI_X5_payFor) (fsI_X5_payFor) I0 I1 → FrL (wsL_X5_payFor) (fsL_X5_payFor) L0 L1 → Q r I1 L1 → Q' r I1 L1) (hP48 : ∀ (v1 : Int32) (v2 : Int32) (v3 : Int32) (v4 : Int32) (v5 : Int32) (I1 : Ix) (L1 : Lx), FrI (wsI_X5_payFor) (fsI_X5_payFor) I0 I1 → FrL (wsL_X5_payFor) (fsL_X5_payFor) L0 L1 → P48 v1 v2 v3 v4 v5 I1 L1 → P48' v1 v2 v3 v4 v5 I1 L1) {v1 : Int32} {v2 : Int32} {v3 : Int32} {v4 : Int32} {v5 : Int32} {I : Ix} {L : Lx} (hF : FrI (wsI_X5_payFor) (fsI_X5_payFor) I0 I) (hL : FrL (wsL_X5_payFor) (fsL_X5_payFor) L0 L) (h : wpX5_payFor_l48 Q P48 v1 v2 v3 v4 v5 I L) : wpX5_payFor_l48 Q' P48' v1 v2 v3 v4 v5 I L := by
  unfold wpX5_payFor_l48 at h ⊢
  refine ⟨fun hc => ?_, fun hc => ?_⟩
  · have h := h.1 hc
    refine ⟨fun hc => ?_, fun hc => ?_⟩
    · have h := h.1 hc
      exact hQ _ _ _ hF hL h
    · have h := h.2 hc
      refine ⟨h.1, ?_⟩
      have h := h.2
      exact hQ _ _ _ hF hL h
  · have h := h.2 hc
    refine ⟨fun hc => ?_, fun hc => ?_⟩
    · have h := h.1 hc
      exact hP48 _ _ _ _ _ _ _ hF hL h
    · have h := h.2 hc
      refine ⟨h.1, ?_⟩
      have h := h.2
      refine ⟨fun hc => ?_, fun hc => ?_⟩
      · have h := h.1 hc
        exact hP48 _ _ _ _ _ _ _ hF hL h
      · have h := h.2 hc
        refine mnX10_isTaker_3 (fun r3 I1 L2 hf hl h => ?_) h
        have hF := hF.tr hf (by decide) (by decide)
        have hL := hL.tr hl (by decide) (by decide)
        refine ⟨fun hc => ?_, fun hc => ?_⟩
        · have h := h.1 hc
          exact hP48 _ _ _ _ _ _ _ hF hL h
        · have h := h.2 hc
          refine ⟨fun hc => ?_, fun hc => ?_⟩
          · have h := h.1 hc
            exact hP48 _ _ _ _ _ _ _ hF hL h
          · have h := h.2 hc
            refine mnX5_isAhead (fun r6 I4 L5 hf hl h => ?_) h
            have hF := hF.tr hf (by decide) (by decide)
            have hL := hL.tr hl (by decide) (by decide)
            refine ⟨fun hc => ?_, fun hc => ?_⟩
            · have h := h.1 hc
              exact hP48 _ _ _ _ _ _ _ hF hL h
            · have h := h.2 hc
              exact hQ _ _ _ hF hL h
set_option maxRecDepth 10000 in
theorem mnX5_payFor_h48 {I0 : Ix} {L0 : Lx} {Q Q' : Int32 → Ix → Lx → Prop} (hQ : ∀ (r : Int32) (I1 : Ix) (L1 : Lx), FrI (wsI_X5_payFor) (fsI_X5_payFor) I0 I1 → FrL (wsL_X5_payFor) (fsL_X5_payFor) L0 L1 → Q r I1 L1 → Q' r I1 L1) {v1 : Int32} {v2 : Int32} {v3 : Int32} {v4 : Int32} {v5 : Int32} {I : Ix} {L : Lx} (hF : FrI (wsI_X5_payFor) (fsI_X5_payFor) I0 I) (hL : FrL (wsL_X5_payFor) (fsL_X5_payFor) L0 L) (h : wpX5_payFor_h48 Q v1 v2 v3 v4 v5 I L) : wpX5_payFor_h48 Q' v1 v2 v3 v4 v5 I L := by
  unfold wpX5_payFor_h48 at h
  refine Lfp.ind (P := fun z => FrI (wsI_X5_payFor) (fsI_X5_payFor) I0 z.2.2.2.2.2.1 → FrL (wsL_X5_payFor) (fsL_X5_payFor) L0 z.2.2.2.2.2.2 → wpX5_payFor_h48 Q' z.1 z.2.1 z.2.2.1 z.2.2.2.1 z.2.2.2.2.1 z.2.2.2.2.2.1 z.2.2.2.2.2.2) ?_ h hF hL
  intro z P' hP' h hF hL
  obtain ⟨v1, v2, v3, v4, v5, I, L⟩ := z
  exact wpX5_payFor_h48_fold (mnX5_payFor_l48 hQ (fun v1 v2 v3 v4 v5 I L hF hL h9 => hP' (v1, v2, v3, v4, v5, I, L) h9 hF hL) hF hL h)
set_option maxRecDepth 10000 in
theorem mnX5_payFor {a1 : Int32} {a2 : Int32} {I : Ix} {L : Lx} {Q Q' : Int32 → Ix → Lx → Prop} (hQ : ∀ (r : Int32) (I1 : Ix) (L1 : Lx), FrI (wsI_X5_payFor) (fsI_X5_payFor) I I1 → FrL (wsL_X5_payFor) (fsL_X5_payFor) L L1 → Q r I1 L1 → Q' r I1 L1) (h : wpX5_payFor a1 a2 I L Q) : wpX5_payFor a1 a2 I L Q' := by
  have hF : FrI (wsI_X5_payFor) (fsI_X5_payFor) I I := FrI.rf
  have hL : FrL (wsL_X5_payFor) (fsL_X5_payFor) L L := FrL.rf
  unfold wpX5_payFor at h ⊢
  refine ⟨fun hc => ?_, fun hc => ?_⟩
  · have h := h.1 hc
    exact hQ _ _ _ hF hL h
  · have h := h.2 hc
    refine mnX10_isTaker_3 (fun r3 I1 L2 hf hl h => ?_) h
    have hF := hF.tr hf (by decide) (by decide)
    have hL := hL.tr hl (by decide) (by decide)
    refine ⟨fun hc => ?_, fun hc => ?_⟩
    · have h := h.1 hc
      refine ⟨h.1, ?_⟩
      have h := h.2
      refine ⟨h.1, ?_⟩
      have h := h.2
      exact mnX5_payFor_h48 hQ hF hL h
    · have h := h.2 hc
      exact hQ _ _ _ hF hL h
abbrev wsI_X5_isAtRest : List Nat := []
abbrev wsL_X5_isAtRest : List Nat := []
abbrev fsI_X5_isAtRest : List (Nat × Nat) := []
abbrev fsL_X5_isAtRest : List (Nat × Nat) := []
set_option maxRecDepth 10000 in
theorem mnX5_isAtRest_l27 {I0 : Ix} {L0 : Lx} {Q Q' : Bool → Ix → Lx → Prop} {P2 P2' : Int32 → Ix → Lx → Prop} {P27 P27' : Int32 → Int32 → Int32 → Ix → Lx → Prop} (hQ : ∀ (r : Bool) (I1 : Ix) (L1 : Lx), FrI (wsI_X5_isAtRest) (fsI_X5_isAtRest) I0 I1 → FrL (wsL_X5_isAtRest) (fsL_X5_isAtRest) L0 L1 → Q r I1 L1 → Q' r I1 L1) (hP2 : ∀ (v1 : Int32) (I1 : Ix) (L1 : Lx), FrI (wsI_X5_isAtRest) (fsI_X5_isAtRest) I0 I1 → FrL (wsL_X5_isAtRest) (fsL_X5_isAtRest) L0 L1 → P2 v1 I1 L1 → P2' v1 I1 L1) (hP27 : ∀ (v1 : Int32) (v2 : Int32) (v3 : Int32) (I1 : Ix) (L1 : Lx), FrI (wsI_X5_isAtRest) (fsI_X5_isAtRest) I0 I1 → FrL (wsL_X5_isAtRest) (fsL_X5_isAtRest) L0 L1 → P27 v1 v2 v3 I1 L1 → P27' v1 v2 v3 I1 L1) {v1 : Int32} {v2 : Int32} {v3 : Int32} {I : Ix} {L : Lx} (hF : FrI (wsI_X5_isAtRest) (fsI_X5_isAtRest) I0 I) (hL : FrL (wsL_X5_isAtRest) (fsL_X5_isAtRest) L0 L) (h : wpX5_isAtRest_l27 Q P2 P27 v1 v2 v3 I L) : wpX5_isAtRest_l27 Q' P2' P27' v1 v2 v3 I L := by
  unfold wpX5_isAtRest_l27 at h ⊢
  refine ⟨h.1, ?_⟩
  have h := h.2
  refine ⟨fun hc => ?_, fun hc => ?_⟩
  · have h := h.1 hc
    exact hP2 _ _ _ hF hL h
  · have h := h.2 hc
    refine mnX5_choiceOf (fun r3 I1 L2 hf hl h => ?_) h
    have hF := hF.tr hf (by decide) (by decide)
    have hL := hL.tr hl (by decide) (by decide)
    refine mnX5_payFor (fun r6 I4 L5 hf hl h => ?_) h
    have hF := hF.tr hf (by decide) (by decide)
    have hL := hL.tr hl (by decide) (by decide)
    refine ⟨fun hc => ?_, fun hc => ?_⟩
    · have h := h.1 hc
      exact hP27 _ _ _ _ _ hF hL h
    · have h := h.2 hc
      exact hQ _ _ _ hF hL h
set_option maxRecDepth 10000 in
theorem mnX5_isAtRest_h27 {I0 : Ix} {L0 : Lx} {Q Q' : Bool → Ix → Lx → Prop} {P2 P2' : Int32 → Ix → Lx → Prop} (hQ : ∀ (r : Bool) (I1 : Ix) (L1 : Lx), FrI (wsI_X5_isAtRest) (fsI_X5_isAtRest) I0 I1 → FrL (wsL_X5_isAtRest) (fsL_X5_isAtRest) L0 L1 → Q r I1 L1 → Q' r I1 L1) (hP2 : ∀ (v1 : Int32) (I1 : Ix) (L1 : Lx), FrI (wsI_X5_isAtRest) (fsI_X5_isAtRest) I0 I1 → FrL (wsL_X5_isAtRest) (fsL_X5_isAtRest) L0 L1 → P2 v1 I1 L1 → P2' v1 I1 L1) {v1 : Int32} {v2 : Int32} {v3 : Int32} {I : Ix} {L : Lx} (hF : FrI (wsI_X5_isAtRest) (fsI_X5_isAtRest) I0 I) (hL : FrL (wsL_X5_isAtRest) (fsL_X5_isAtRest) L0 L) (h : wpX5_isAtRest_h27 Q P2 v1 v2 v3 I L) : wpX5_isAtRest_h27 Q' P2' v1 v2 v3 I L := by
  unfold wpX5_isAtRest_h27 at h
  refine Lfp.ind (P := fun z => FrI (wsI_X5_isAtRest) (fsI_X5_isAtRest) I0 z.2.2.2.1 → FrL (wsL_X5_isAtRest) (fsL_X5_isAtRest) L0 z.2.2.2.2 → wpX5_isAtRest_h27 Q' P2' z.1 z.2.1 z.2.2.1 z.2.2.2.1 z.2.2.2.2) ?_ h hF hL
  intro z P' hP' h hF hL
  obtain ⟨v1, v2, v3, I, L⟩ := z
  exact wpX5_isAtRest_h27_fold (mnX5_isAtRest_l27 hQ hP2 (fun v1 v2 v3 I L hF hL h9 => hP' (v1, v2, v3, I, L) h9 hF hL) hF hL h)
set_option maxRecDepth 10000 in
theorem mnX5_isAtRest_l2 {I0 : Ix} {L0 : Lx} {Q Q' : Bool → Ix → Lx → Prop} {P2 P2' : Int32 → Ix → Lx → Prop} (hQ : ∀ (r : Bool) (I1 : Ix) (L1 : Lx), FrI (wsI_X5_isAtRest) (fsI_X5_isAtRest) I0 I1 → FrL (wsL_X5_isAtRest) (fsL_X5_isAtRest) L0 L1 → Q r I1 L1 → Q' r I1 L1) (hP2 : ∀ (v1 : Int32) (I1 : Ix) (L1 : Lx), FrI (wsI_X5_isAtRest) (fsI_X5_isAtRest) I0 I1 → FrL (wsL_X5_isAtRest) (fsL_X5_isAtRest) L0 L1 → P2 v1 I1 L1 → P2' v1 I1 L1) {v1 : Int32} {I : Ix} {L : Lx} (hF : FrI (wsI_X5_isAtRest) (fsI_X5_isAtRest) I0 I) (hL : FrL (wsL_X5_isAtRest) (fsL_X5_isAtRest) L0 L) (h : wpX5_isAtRest_l2 Q P2 v1 I L) : wpX5_isAtRest_l2 Q' P2' v1 I L := by
  unfold wpX5_isAtRest_l2 at h ⊢
  refine ⟨fun hc => ?_, fun hc => ?_⟩
  · have h := h.1 hc
    exact hQ _ _ _ hF hL h
  · have h := h.2 hc
    refine ⟨h.1, ?_⟩
    have h := h.2
    refine mnX5_payFor (fun r3 I1 L2 hf hl h => ?_) h
    have hF := hF.tr hf (by decide) (by decide)
    have hL := hL.tr hl (by decide) (by decide)
    exact mnX5_isAtRest_h27 hQ hP2 hF hL h
set_option maxRecDepth 10000 in
theorem mnX5_isAtRest_h2 {I0 : Ix} {L0 : Lx} {Q Q' : Bool → Ix → Lx → Prop} (hQ : ∀ (r : Bool) (I1 : Ix) (L1 : Lx), FrI (wsI_X5_isAtRest) (fsI_X5_isAtRest) I0 I1 → FrL (wsL_X5_isAtRest) (fsL_X5_isAtRest) L0 L1 → Q r I1 L1 → Q' r I1 L1) {v1 : Int32} {I : Ix} {L : Lx} (hF : FrI (wsI_X5_isAtRest) (fsI_X5_isAtRest) I0 I) (hL : FrL (wsL_X5_isAtRest) (fsL_X5_isAtRest) L0 L) (h : wpX5_isAtRest_h2 Q v1 I L) : wpX5_isAtRest_h2 Q' v1 I L := by
  unfold wpX5_isAtRest_h2 at h
  refine Lfp.ind (P := fun z => FrI (wsI_X5_isAtRest) (fsI_X5_isAtRest) I0 z.2.1 → FrL (wsL_X5_isAtRest) (fsL_X5_isAtRest) L0 z.2.2 → wpX5_isAtRest_h2 Q' z.1 z.2.1 z.2.2) ?_ h hF hL
  intro z P' hP' h hF hL
  obtain ⟨v1, I, L⟩ := z
  exact wpX5_isAtRest_h2_fold (mnX5_isAtRest_l2 hQ (fun v1 I L hF hL h9 => hP' (v1, I, L) h9 hF hL) hF hL h)
set_option maxRecDepth 10000 in
theorem mnX5_isAtRest {I : Ix} {L : Lx} {Q Q' : Bool → Ix → Lx → Prop} (hQ : ∀ (r : Bool) (I1 : Ix) (L1 : Lx), FrI (wsI_X5_isAtRest) (fsI_X5_isAtRest) I I1 → FrL (wsL_X5_isAtRest) (fsL_X5_isAtRest) L L1 → Q r I1 L1 → Q' r I1 L1) (h : wpX5_isAtRest I L Q) : wpX5_isAtRest I L Q' := by
  have hF : FrI (wsI_X5_isAtRest) (fsI_X5_isAtRest) I I := FrI.rf
  have hL : FrL (wsL_X5_isAtRest) (fsL_X5_isAtRest) L L := FrL.rf
  unfold wpX5_isAtRest at h ⊢
  exact mnX5_isAtRest_h2 hQ hF hL h
abbrev wsI_X5_payOfAll : List Nat := []
abbrev wsL_X5_payOfAll : List Nat := []
abbrev fsI_X5_payOfAll : List (Nat × Nat) := []
abbrev fsL_X5_payOfAll : List (Nat × Nat) := []
set_option maxRecDepth 10000 in
theorem mnX5_payOfAll_l4 {I0 : Ix} {L0 : Lx} {Q Q' : Int32 → Ix → Lx → Prop} {P4 P4' : Int32 → Int32 → Ix → Lx → Prop} (hQ : ∀ (r : Int32) (I1 : Ix) (L1 : Lx), FrI (wsI_X5_payOfAll) (fsI_X5_payOfAll) I0 I1 → FrL (wsL_X5_payOfAll) (fsL_X5_payOfAll) L0 L1 → Q r I1 L1 → Q' r I1 L1) (hP4 : ∀ (v1 : Int32) (v2 : Int32) (I1 : Ix) (L1 : Lx), FrI (wsI_X5_payOfAll) (fsI_X5_payOfAll) I0 I1 → FrL (wsL_X5_payOfAll) (fsL_X5_payOfAll) L0 L1 → P4 v1 v2 I1 L1 → P4' v1 v2 I1 L1) {v1 : Int32} {v2 : Int32} {I : Ix} {L : Lx} (hF : FrI (wsI_X5_payOfAll) (fsI_X5_payOfAll) I0 I) (hL : FrL (wsL_X5_payOfAll) (fsL_X5_payOfAll) L0 L) (h : wpX5_payOfAll_l4 Q P4 v1 v2 I L) : wpX5_payOfAll_l4 Q' P4' v1 v2 I L := by
  unfold wpX5_payOfAll_l4 at h ⊢
  refine ⟨fun hc => ?_, fun hc => ?_⟩
  · have h := h.1 hc
    exact hQ _ _ _ hF hL h
  · have h := h.2 hc
    refine ⟨h.1, ?_⟩
    have h := h.2
    refine mnX5_payFor (fun r3 I1 L2 hf hl h => ?_) h
    have hF := hF.tr hf (by decide) (by decide)
    have hL := hL.tr hl (by decide) (by decide)
    exact hP4 _ _ _ _ hF hL h
set_option maxRecDepth 10000 in
theorem mnX5_payOfAll_h4 {I0 : Ix} {L0 : Lx} {Q Q' : Int32 → Ix → Lx → Prop} (hQ : ∀ (r : Int32) (I1 : Ix) (L1 : Lx), FrI (wsI_X5_payOfAll) (fsI_X5_payOfAll) I0 I1 → FrL (wsL_X5_payOfAll) (fsL_X5_payOfAll) L0 L1 → Q r I1 L1 → Q' r I1 L1) {v1 : Int32} {v2 : Int32} {I : Ix} {L : Lx} (hF : FrI (wsI_X5_payOfAll) (fsI_X5_payOfAll) I0 I) (hL : FrL (wsL_X5_payOfAll) (fsL_X5_payOfAll) L0 L) (h : wpX5_payOfAll_h4 Q v1 v2 I L) : wpX5_payOfAll_h4 Q' v1 v2 I L := by
  unfold wpX5_payOfAll_h4 at h
  refine Lfp.ind (P := fun z => FrI (wsI_X5_payOfAll) (fsI_X5_payOfAll) I0 z.2.2.1 → FrL (wsL_X5_payOfAll) (fsL_X5_payOfAll) L0 z.2.2.2 → wpX5_payOfAll_h4 Q' z.1 z.2.1 z.2.2.1 z.2.2.2) ?_ h hF hL
  intro z P' hP' h hF hL
  obtain ⟨v1, v2, I, L⟩ := z
  exact wpX5_payOfAll_h4_fold (mnX5_payOfAll_l4 hQ (fun v1 v2 I L hF hL h9 => hP' (v1, v2, I, L) h9 hF hL) hF hL h)
set_option maxRecDepth 10000 in
theorem mnX5_payOfAll {I : Ix} {L : Lx} {Q Q' : Int32 → Ix → Lx → Prop} (hQ : ∀ (r : Int32) (I1 : Ix) (L1 : Lx), FrI (wsI_X5_payOfAll) (fsI_X5_payOfAll) I I1 → FrL (wsL_X5_payOfAll) (fsL_X5_payOfAll) L L1 → Q r I1 L1 → Q' r I1 L1) (h : wpX5_payOfAll I L Q) : wpX5_payOfAll I L Q' := by
  have hF : FrI (wsI_X5_payOfAll) (fsI_X5_payOfAll) I I := FrI.rf
  have hL : FrL (wsL_X5_payOfAll) (fsL_X5_payOfAll) L L := FrL.rf
  unfold wpX5_payOfAll at h ⊢
  exact mnX5_payOfAll_h4 hQ hF hL h
abbrev wsI_X5_lost : List Nat := []
abbrev wsL_X5_lost : List Nat := []
abbrev fsI_X5_lost : List (Nat × Nat) := []
abbrev fsL_X5_lost : List (Nat × Nat) := []
set_option maxRecDepth 10000 in
theorem mnX5_lost_b108 {I0 : Ix} {L0 : Lx} {Q Q' : Int32 → Ix → Lx → Prop} {P4 P4' : Int32 → Int32 → Ix → Lx → Prop} (hQ : ∀ (r : Int32) (I1 : Ix) (L1 : Lx), FrI (wsI_X5_lost) (fsI_X5_lost) I0 I1 → FrL (wsL_X5_lost) (fsL_X5_lost) L0 L1 → Q r I1 L1 → Q' r I1 L1) (hP4 : ∀ (v1 : Int32) (v2 : Int32) (I1 : Ix) (L1 : Lx), FrI (wsI_X5_lost) (fsI_X5_lost) I0 I1 → FrL (wsL_X5_lost) (fsL_X5_lost) L0 L1 → P4 v1 v2 I1 L1 → P4' v1 v2 I1 L1) {v2 : Int32} {v3 : Int32} {t0 : Int32} {I : Ix} {L : Lx} (hF : FrI (wsI_X5_lost) (fsI_X5_lost) I0 I) (hL : FrL (wsL_X5_lost) (fsL_X5_lost) L0 L) (h : wpX5_lost_b108 Q P4 v2 v3 t0 I L) : wpX5_lost_b108 Q' P4' v2 v3 t0 I L := by
  unfold wpX5_lost_b108 at h ⊢
  exact hP4 _ _ _ _ hF hL h
set_option maxRecDepth 10000 in
theorem mnX5_lost_l26 {I0 : Ix} {L0 : Lx} {Q Q' : Int32 → Ix → Lx → Prop} {P4 P4' : Int32 → Int32 → Ix → Lx → Prop} {P26 P26' : Int32 → Int32 → Int32 → Int32 → Int32 → Int32 → Ix → Lx → Prop} (hQ : ∀ (r : Int32) (I1 : Ix) (L1 : Lx), FrI (wsI_X5_lost) (fsI_X5_lost) I0 I1 → FrL (wsL_X5_lost) (fsL_X5_lost) L0 L1 → Q r I1 L1 → Q' r I1 L1) (hP4 : ∀ (v1 : Int32) (v2 : Int32) (I1 : Ix) (L1 : Lx), FrI (wsI_X5_lost) (fsI_X5_lost) I0 I1 → FrL (wsL_X5_lost) (fsL_X5_lost) L0 L1 → P4 v1 v2 I1 L1 → P4' v1 v2 I1 L1) (hP26 : ∀ (v1 : Int32) (v2 : Int32) (v3 : Int32) (v4 : Int32) (v5 : Int32) (v6 : Int32) (I1 : Ix) (L1 : Lx), FrI (wsI_X5_lost) (fsI_X5_lost) I0 I1 → FrL (wsL_X5_lost) (fsL_X5_lost) L0 L1 → P26 v1 v2 v3 v4 v5 v6 I1 L1 → P26' v1 v2 v3 v4 v5 v6 I1 L1) {v1 : Int32} {v2 : Int32} {v3 : Int32} {v4 : Int32} {v5 : Int32} {v6 : Int32} {I : Ix} {L : Lx} (hF : FrI (wsI_X5_lost) (fsI_X5_lost) I0 I) (hL : FrL (wsL_X5_lost) (fsL_X5_lost) L0 L) (h : wpX5_lost_l26 Q P4 P26 v1 v2 v3 v4 v5 v6 I L) : wpX5_lost_l26 Q' P4' P26' v1 v2 v3 v4 v5 v6 I L := by
  unfold wpX5_lost_l26 at h ⊢
  refine ⟨fun hc => ?_, fun hc => ?_⟩
  · have h := h.1 hc
    refine ⟨fun hc => ?_, fun hc => ?_⟩
    · have h := h.1 hc
      exact mnX5_lost_b108 hQ hP4 hF hL h
    · have h := h.2 hc
      refine ⟨fun hc => ?_, fun hc => ?_⟩
      · have h := h.1 hc
        exact hP4 _ _ _ _ hF hL h
      · have h := h.2 hc
        exact mnX5_lost_b108 hQ hP4 hF hL h
  · have h := h.2 hc
    refine ⟨h.1, ?_⟩
    have h := h.2
    refine ⟨fun hc => ?_, fun hc => ?_⟩
    · have h := h.1 hc
      exact hP26 _ _ _ _ _ _ _ _ hF hL h
    · have h := h.2 hc
      refine mnX10_isTaker_3 (fun r3 I1 L2 hf hl h => ?_) h
      have hF := hF.tr hf (by decide) (by decide)
      have hL := hL.tr hl (by decide) (by decide)
      refine ⟨h.1, ?_⟩
      have h := h.2
      refine ⟨fun hc => ?_, fun hc => ?_⟩
      · have h := h.1 hc
        exact hP26 _ _ _ _ _ _ _ _ hF hL h
      · have h := h.2 hc
        exact hP26 _ _ _ _ _ _ _ _ hF hL h
set_option maxRecDepth 10000 in
theorem mnX5_lost_h26 {I0 : Ix} {L0 : Lx} {Q Q' : Int32 → Ix → Lx → Prop} {P4 P4' : Int32 → Int32 → Ix → Lx → Prop} (hQ : ∀ (r : Int32) (I1 : Ix) (L1 : Lx), FrI (wsI_X5_lost) (fsI_X5_lost) I0 I1 → FrL (wsL_X5_lost) (fsL_X5_lost) L0 L1 → Q r I1 L1 → Q' r I1 L1) (hP4 : ∀ (v1 : Int32) (v2 : Int32) (I1 : Ix) (L1 : Lx), FrI (wsI_X5_lost) (fsI_X5_lost) I0 I1 → FrL (wsL_X5_lost) (fsL_X5_lost) L0 L1 → P4 v1 v2 I1 L1 → P4' v1 v2 I1 L1) {v1 : Int32} {v2 : Int32} {v3 : Int32} {v4 : Int32} {v5 : Int32} {v6 : Int32} {I : Ix} {L : Lx} (hF : FrI (wsI_X5_lost) (fsI_X5_lost) I0 I) (hL : FrL (wsL_X5_lost) (fsL_X5_lost) L0 L) (h : wpX5_lost_h26 Q P4 v1 v2 v3 v4 v5 v6 I L) : wpX5_lost_h26 Q' P4' v1 v2 v3 v4 v5 v6 I L := by
  unfold wpX5_lost_h26 at h
  refine Lfp.ind (P := fun z => FrI (wsI_X5_lost) (fsI_X5_lost) I0 z.2.2.2.2.2.2.1 → FrL (wsL_X5_lost) (fsL_X5_lost) L0 z.2.2.2.2.2.2.2 → wpX5_lost_h26 Q' P4' z.1 z.2.1 z.2.2.1 z.2.2.2.1 z.2.2.2.2.1 z.2.2.2.2.2.1 z.2.2.2.2.2.2.1 z.2.2.2.2.2.2.2) ?_ h hF hL
  intro z P' hP' h hF hL
  obtain ⟨v1, v2, v3, v4, v5, v6, I, L⟩ := z
  exact wpX5_lost_h26_fold (mnX5_lost_l26 hQ hP4 (fun v1 v2 v3 v4 v5 v6 I L hF hL h9 => hP' (v1, v2, v3, v4, v5, v6, I, L) h9 hF hL) hF hL h)
set_option maxRecDepth 10000 in
theorem mnX5_lost_l4 {I0 : Ix} {L0 : Lx} {Q Q' : Int32 → Ix → Lx → Prop} {P4 P4' : Int32 → Int32 → Ix → Lx → Prop} (hQ : ∀ (r : Int32) (I1 : Ix) (L1 : Lx), FrI (wsI_X5_lost) (fsI_X5_lost) I0 I1 → FrL (wsL_X5_lost) (fsL_X5_lost) L0 L1 → Q r I1 L1 → Q' r I1 L1) (hP4 : ∀ (v1 : Int32) (v2 : Int32) (I1 : Ix) (L1 : Lx), FrI (wsI_X5_lost) (fsI_X5_lost) I0 I1 → FrL (wsL_X5_lost) (fsL_X5_lost) L0 L1 → P4 v1 v2 I1 L1 → P4' v1 v2 I1 L1) {v1 : Int32} {v2 : Int32} {I : Ix} {L : Lx} (hF : FrI (wsI_X5_lost) (fsI_X5_lost) I0 I) (hL : FrL (wsL_X5_lost) (fsL_X5_lost) L0 L) (h : wpX5_lost_l4 Q P4 v1 v2 I L) : wpX5_lost_l4 Q' P4' v1 v2 I L := by
  unfold wpX5_lost_l4 at h ⊢
  refine ⟨fun hc => ?_, fun hc => ?_⟩
  · have h := h.1 hc
    exact hQ _ _ _ hF hL h
  · have h := h.2 hc
    exact mnX5_lost_h26 hQ hP4 hF hL h
set_option maxRecDepth 10000 in
theorem mnX5_lost_h4 {I0 : Ix} {L0 : Lx} {Q Q' : Int32 → Ix → Lx → Prop} (hQ : ∀ (r : Int32) (I1 : Ix) (L1 : Lx), FrI (wsI_X5_lost) (fsI_X5_lost) I0 I1 → FrL (wsL_X5_lost) (fsL_X5_lost) L0 L1 → Q r I1 L1 → Q' r I1 L1) {v1 : Int32} {v2 : Int32} {I : Ix} {L : Lx} (hF : FrI (wsI_X5_lost) (fsI_X5_lost) I0 I) (hL : FrL (wsL_X5_lost) (fsL_X5_lost) L0 L) (h : wpX5_lost_h4 Q v1 v2 I L) : wpX5_lost_h4 Q' v1 v2 I L := by
  unfold wpX5_lost_h4 at h
  refine Lfp.ind (P := fun z => FrI (wsI_X5_lost) (fsI_X5_lost) I0 z.2.2.1 → FrL (wsL_X5_lost) (fsL_X5_lost) L0 z.2.2.2 → wpX5_lost_h4 Q' z.1 z.2.1 z.2.2.1 z.2.2.2) ?_ h hF hL
  intro z P' hP' h hF hL
  obtain ⟨v1, v2, I, L⟩ := z
  exact wpX5_lost_h4_fold (mnX5_lost_l4 hQ (fun v1 v2 I L hF hL h9 => hP' (v1, v2, I, L) h9 hF hL) hF hL h)
set_option maxRecDepth 10000 in
theorem mnX5_lost {I : Ix} {L : Lx} {Q Q' : Int32 → Ix → Lx → Prop} (hQ : ∀ (r : Int32) (I1 : Ix) (L1 : Lx), FrI (wsI_X5_lost) (fsI_X5_lost) I I1 → FrL (wsL_X5_lost) (fsL_X5_lost) L L1 → Q r I1 L1 → Q' r I1 L1) (h : wpX5_lost I L Q) : wpX5_lost I L Q' := by
  have hF : FrI (wsI_X5_lost) (fsI_X5_lost) I I := FrI.rf
  have hL : FrL (wsL_X5_lost) (fsL_X5_lost) L L := FrL.rf
  unfold wpX5_lost at h ⊢
  exact mnX5_lost_h4 hQ hF hL h
abbrev wsI_X5_addChoice : List Nat := [81, 82]
abbrev wsL_X5_addChoice : List Nat := []
abbrev fsI_X5_addChoice : List (Nat × Nat) := []
abbrev fsL_X5_addChoice : List (Nat × Nat) := []
set_option maxRecDepth 10000 in
theorem mnX5_addChoice {a1 : Int32} {a2 : Int32} {I : Ix} {L : Lx} {Q Q' : Ix → Lx → Prop} (hQ : ∀ (I1 : Ix) (L1 : Lx), FrI (wsI_X5_addChoice) (fsI_X5_addChoice) I I1 → FrL (wsL_X5_addChoice) (fsL_X5_addChoice) L L1 → Q I1 L1 → Q' I1 L1) (h : wpX5_addChoice a1 a2 I L Q) : wpX5_addChoice a1 a2 I L Q' := by
  have hF : FrI (wsI_X5_addChoice) (fsI_X5_addChoice) I I := FrI.rf
  have hL : FrL (wsL_X5_addChoice) (fsL_X5_addChoice) L L := FrL.rf
  unfold wpX5_addChoice at h ⊢
  refine ⟨h.1, ?_⟩
  have h := h.2
  refine ⟨h.1, ?_⟩
  have h := h.2
  intro I1 eI1
  have h := h I1 eI1
  have hF := hF.pw eI1 (by decide)
  refine ⟨h.1, ?_⟩
  have h := h.2
  refine ⟨h.1, ?_⟩
  have h := h.2
  intro I2 eI2
  have h := h I2 eI2
  have hF := hF.pw eI2 (by decide)
  exact hQ _ _ hF hL h
abbrev wsI_X5_listChoices : List Nat := [82, 81, 83, 84]
abbrev wsL_X5_listChoices : List Nat := []
abbrev fsI_X5_listChoices : List (Nat × Nat) := []
abbrev fsL_X5_listChoices : List (Nat × Nat) := []
set_option maxRecDepth 10000 in
theorem mnX5_listChoices_b72 {I0 : Ix} {L0 : Lx} {Q Q' : Ix → Lx → Prop} {P2 P2' : Int32 → Ix → Lx → Prop} {P22 P22' : Int32 → Int32 → Ix → Lx → Prop} (hQ : ∀ (I1 : Ix) (L1 : Lx), FrI (wsI_X5_listChoices) (fsI_X5_listChoices) I0 I1 → FrL (wsL_X5_listChoices) (fsL_X5_listChoices) L0 L1 → Q I1 L1 → Q' I1 L1) (hP2 : ∀ (v1 : Int32) (I1 : Ix) (L1 : Lx), FrI (wsI_X5_listChoices) (fsI_X5_listChoices) I0 I1 → FrL (wsL_X5_listChoices) (fsL_X5_listChoices) L0 L1 → P2 v1 I1 L1 → P2' v1 I1 L1) (hP22 : ∀ (v1 : Int32) (v2 : Int32) (I1 : Ix) (L1 : Lx), FrI (wsI_X5_listChoices) (fsI_X5_listChoices) I0 I1 → FrL (wsL_X5_listChoices) (fsL_X5_listChoices) L0 L1 → P22 v1 v2 I1 L1 → P22' v1 v2 I1 L1) {v1 : Int32} {v2 : Int32} {t0 : Int32} {I : Ix} {L : Lx} (hF : FrI (wsI_X5_listChoices) (fsI_X5_listChoices) I0 I) (hL : FrL (wsL_X5_listChoices) (fsL_X5_listChoices) L0 L) (h : wpX5_listChoices_b72 Q P2 P22 v1 v2 t0 I L) : wpX5_listChoices_b72 Q' P2' P22' v1 v2 t0 I L := by
  unfold wpX5_listChoices_b72 at h ⊢
  refine ⟨fun hc => ?_, fun hc => ?_⟩
  · have h := h.1 hc
    exact hP22 _ _ _ _ hF hL h
  · have h := h.2 hc
    refine ⟨h.1, ?_⟩
    have h := h.2
    refine ⟨fun hc => ?_, fun hc => ?_⟩
    · have h := h.1 hc
      exact hP22 _ _ _ _ hF hL h
    · have h := h.2 hc
      refine mnX5_addChoice (fun I1 L2 hf hl h => ?_) h
      have hF := hF.tr hf (by decide) (by decide)
      have hL := hL.tr hl (by decide) (by decide)
      exact hP22 _ _ _ _ hF hL h
set_option maxRecDepth 10000 in
theorem mnX5_listChoices_l22 {I0 : Ix} {L0 : Lx} {Q Q' : Ix → Lx → Prop} {P2 P2' : Int32 → Ix → Lx → Prop} {P22 P22' : Int32 → Int32 → Ix → Lx → Prop} (hQ : ∀ (I1 : Ix) (L1 : Lx), FrI (wsI_X5_listChoices) (fsI_X5_listChoices) I0 I1 → FrL (wsL_X5_listChoices) (fsL_X5_listChoices) L0 L1 → Q I1 L1 → Q' I1 L1) (hP2 : ∀ (v1 : Int32) (I1 : Ix) (L1 : Lx), FrI (wsI_X5_listChoices) (fsI_X5_listChoices) I0 I1 → FrL (wsL_X5_listChoices) (fsL_X5_listChoices) L0 L1 → P2 v1 I1 L1 → P2' v1 I1 L1) (hP22 : ∀ (v1 : Int32) (v2 : Int32) (I1 : Ix) (L1 : Lx), FrI (wsI_X5_listChoices) (fsI_X5_listChoices) I0 I1 → FrL (wsL_X5_listChoices) (fsL_X5_listChoices) L0 L1 → P22 v1 v2 I1 L1 → P22' v1 v2 I1 L1) {v1 : Int32} {v2 : Int32} {I : Ix} {L : Lx} (hF : FrI (wsI_X5_listChoices) (fsI_X5_listChoices) I0 I) (hL : FrL (wsL_X5_listChoices) (fsL_X5_listChoices) L0 L) (h : wpX5_listChoices_l22 Q P2 P22 v1 v2 I L) : wpX5_listChoices_l22 Q' P2' P22' v1 v2 I L := by
  unfold wpX5_listChoices_l22 at h ⊢
  refine ⟨fun hc => ?_, fun hc => ?_⟩
  · have h := h.1 hc
    refine mnX5_addChoice (fun I1 L2 hf hl h => ?_) h
    have hF := hF.tr hf (by decide) (by decide)
    have hL := hL.tr hl (by decide) (by decide)
    refine mnX5_choose (fun I3 L4 hf hl h => ?_) h
    have hF := hF.tr hf (by decide) (by decide)
    have hL := hL.tr hl (by decide) (by decide)
    exact hP2 _ _ _ hF hL h
  · have h := h.2 hc
    refine ⟨h.1, ?_⟩
    have h := h.2
    refine mnX5_walk (fun r7 I5 L6 hf hl h => ?_) h
    have hF := hF.tr hf (by decide) (by decide)
    have hL := hL.tr hl (by decide) (by decide)
    refine ⟨h.1, ?_⟩
    have h := h.2
    refine ⟨fun hc => ?_, fun hc => ?_⟩
    · have h := h.1 hc
      exact mnX5_listChoices_b72 hQ hP2 hP22 hF hL h
    · have h := h.2 hc
      exact mnX5_listChoices_b72 hQ hP2 hP22 hF hL h
set_option maxRecDepth 10000 in
theorem mnX5_listChoices_h22 {I0 : Ix} {L0 : Lx} {Q Q' : Ix → Lx → Prop} {P2 P2' : Int32 → Ix → Lx → Prop} (hQ : ∀ (I1 : Ix) (L1 : Lx), FrI (wsI_X5_listChoices) (fsI_X5_listChoices) I0 I1 → FrL (wsL_X5_listChoices) (fsL_X5_listChoices) L0 L1 → Q I1 L1 → Q' I1 L1) (hP2 : ∀ (v1 : Int32) (I1 : Ix) (L1 : Lx), FrI (wsI_X5_listChoices) (fsI_X5_listChoices) I0 I1 → FrL (wsL_X5_listChoices) (fsL_X5_listChoices) L0 L1 → P2 v1 I1 L1 → P2' v1 I1 L1) {v1 : Int32} {v2 : Int32} {I : Ix} {L : Lx} (hF : FrI (wsI_X5_listChoices) (fsI_X5_listChoices) I0 I) (hL : FrL (wsL_X5_listChoices) (fsL_X5_listChoices) L0 L) (h : wpX5_listChoices_h22 Q P2 v1 v2 I L) : wpX5_listChoices_h22 Q' P2' v1 v2 I L := by
  unfold wpX5_listChoices_h22 at h
  refine Lfp.ind (P := fun z => FrI (wsI_X5_listChoices) (fsI_X5_listChoices) I0 z.2.2.1 → FrL (wsL_X5_listChoices) (fsL_X5_listChoices) L0 z.2.2.2 → wpX5_listChoices_h22 Q' P2' z.1 z.2.1 z.2.2.1 z.2.2.2) ?_ h hF hL
  intro z P' hP' h hF hL
  obtain ⟨v1, v2, I, L⟩ := z
  exact wpX5_listChoices_h22_fold (mnX5_listChoices_l22 hQ hP2 (fun v1 v2 I L hF hL h9 => hP' (v1, v2, I, L) h9 hF hL) hF hL h)
set_option maxRecDepth 10000 in
theorem mnX5_listChoices_l2 {I0 : Ix} {L0 : Lx} {Q Q' : Ix → Lx → Prop} {P2 P2' : Int32 → Ix → Lx → Prop} (hQ : ∀ (I1 : Ix) (L1 : Lx), FrI (wsI_X5_listChoices) (fsI_X5_listChoices) I0 I1 → FrL (wsL_X5_listChoices) (fsL_X5_listChoices) L0 L1 → Q I1 L1 → Q' I1 L1) (hP2 : ∀ (v1 : Int32) (I1 : Ix) (L1 : Lx), FrI (wsI_X5_listChoices) (fsI_X5_listChoices) I0 I1 → FrL (wsL_X5_listChoices) (fsL_X5_listChoices) L0 L1 → P2 v1 I1 L1 → P2' v1 I1 L1) {v1 : Int32} {I : Ix} {L : Lx} (hF : FrI (wsI_X5_listChoices) (fsI_X5_listChoices) I0 I) (hL : FrL (wsL_X5_listChoices) (fsL_X5_listChoices) L0 L) (h : wpX5_listChoices_l2 Q P2 v1 I L) : wpX5_listChoices_l2 Q' P2' v1 I L := by
  unfold wpX5_listChoices_l2 at h ⊢
  refine ⟨fun hc => ?_, fun hc => ?_⟩
  · have h := h.1 hc
    exact hQ _ _ hF hL h
  · have h := h.2 hc
    refine ⟨h.1, ?_⟩
    have h := h.2
    intro I1 eI1
    have h := h I1 eI1
    have hF := hF.pw eI1 (by decide)
    exact mnX5_listChoices_h22 hQ hP2 hF hL h
set_option maxRecDepth 10000 in
theorem mnX5_listChoices_h2 {I0 : Ix} {L0 : Lx} {Q Q' : Ix → Lx → Prop} (hQ : ∀ (I1 : Ix) (L1 : Lx), FrI (wsI_X5_listChoices) (fsI_X5_listChoices) I0 I1 → FrL (wsL_X5_listChoices) (fsL_X5_listChoices) L0 L1 → Q I1 L1 → Q' I1 L1) {v1 : Int32} {I : Ix} {L : Lx} (hF : FrI (wsI_X5_listChoices) (fsI_X5_listChoices) I0 I) (hL : FrL (wsL_X5_listChoices) (fsL_X5_listChoices) L0 L) (h : wpX5_listChoices_h2 Q v1 I L) : wpX5_listChoices_h2 Q' v1 I L := by
  unfold wpX5_listChoices_h2 at h
  refine Lfp.ind (P := fun z => FrI (wsI_X5_listChoices) (fsI_X5_listChoices) I0 z.2.1 → FrL (wsL_X5_listChoices) (fsL_X5_listChoices) L0 z.2.2 → wpX5_listChoices_h2 Q' z.1 z.2.1 z.2.2) ?_ h hF hL
  intro z P' hP' h hF hL
  obtain ⟨v1, I, L⟩ := z
  exact wpX5_listChoices_h2_fold (mnX5_listChoices_l2 hQ (fun v1 I L hF hL h9 => hP' (v1, I, L) h9 hF hL) hF hL h)
set_option maxRecDepth 10000 in
theorem mnX5_listChoices {I : Ix} {L : Lx} {Q Q' : Ix → Lx → Prop} (hQ : ∀ (I1 : Ix) (L1 : Lx), FrI (wsI_X5_listChoices) (fsI_X5_listChoices) I I1 → FrL (wsL_X5_listChoices) (fsL_X5_listChoices) L L1 → Q I1 L1 → Q' I1 L1) (h : wpX5_listChoices I L Q) : wpX5_listChoices I L Q' := by
  have hF : FrI (wsI_X5_listChoices) (fsI_X5_listChoices) I I := FrI.rf
  have hL : FrL (wsL_X5_listChoices) (fsL_X5_listChoices) L L := FrL.rf
  unfold wpX5_listChoices at h ⊢
  exact mnX5_listChoices_h2 hQ hF hL h
abbrev wsI_X5_seek : List Nat := [83, 84, 82, 81]
abbrev wsL_X5_seek : List Nat := []
abbrev fsI_X5_seek : List (Nat × Nat) := [(80, 6), (80, 7), (80, 8)]
abbrev fsL_X5_seek : List (Nat × Nat) := []
set_option maxRecDepth 10000 in
theorem mnX5_seek_b92 {I0 : Ix} {L0 : Lx} {Q Q' : Bool → Ix → Lx → Prop} {P24 P24' : Int32 → Int32 → Int32 → Ix → Lx → Prop} (hQ : ∀ (r : Bool) (I1 : Ix) (L1 : Lx), FrI (wsI_X5_seek) (fsI_X5_seek) I0 I1 → FrL (wsL_X5_seek) (fsL_X5_seek) L0 L1 → Q r I1 L1 → Q' r I1 L1) (hP24 : ∀ (v1 : Int32) (v2 : Int32) (v3 : Int32) (I1 : Ix) (L1 : Lx), FrI (wsI_X5_seek) (fsI_X5_seek) I0 I1 → FrL (wsL_X5_seek) (fsL_X5_seek) L0 L1 → P24 v1 v2 v3 I1 L1 → P24' v1 v2 v3 I1 L1) {v1 : Int32} {v3 : Int32} {I : Ix} {L : Lx} (hF : FrI (wsI_X5_seek) (fsI_X5_seek) I0 I) (hL : FrL (wsL_X5_seek) (fsL_X5_seek) L0 L) (h : wpX5_seek_b92 Q P24 v1 v3 I L) : wpX5_seek_b92 Q' P24' v1 v3 I L := by
  unfold wpX5_seek_b92 at h ⊢
  refine mnX5_goOn (fun r3 I1 L2 hf hl h => ?_) h
  have hF := hF.tr hf (by decide) (by decide)
  have hL := hL.tr hl (by decide) (by decide)
  exact hP24 _ _ _ _ _ hF hL h
set_option maxRecDepth 10000 in
theorem mnX5_seek_l24 {I0 : Ix} {L0 : Lx} {Q Q' : Bool → Ix → Lx → Prop} {P24 P24' : Int32 → Int32 → Int32 → Ix → Lx → Prop} (hQ : ∀ (r : Bool) (I1 : Ix) (L1 : Lx), FrI (wsI_X5_seek) (fsI_X5_seek) I0 I1 → FrL (wsL_X5_seek) (fsL_X5_seek) L0 L1 → Q r I1 L1 → Q' r I1 L1) (hP24 : ∀ (v1 : Int32) (v2 : Int32) (v3 : Int32) (I1 : Ix) (L1 : Lx), FrI (wsI_X5_seek) (fsI_X5_seek) I0 I1 → FrL (wsL_X5_seek) (fsL_X5_seek) L0 L1 → P24 v1 v2 v3 I1 L1 → P24' v1 v2 v3 I1 L1) {v1 : Int32} {v2 : Int32} {v3 : Int32} {I : Ix} {L : Lx} (hF : FrI (wsI_X5_seek) (fsI_X5_seek) I0 I) (hL : FrL (wsL_X5_seek) (fsL_X5_seek) L0 L) (h : wpX5_seek_l24 Q P24 v1 v2 v3 I L) : wpX5_seek_l24 Q' P24' v1 v2 v3 I L := by
  unfold wpX5_seek_l24 at h ⊢
  refine ⟨fun hc => ?_, fun hc => ?_⟩
  · have h := h.1 hc
    exact hQ _ _ _ hF hL h
  · have h := h.2 hc
    refine ⟨fun hc => ?_, fun hc => ?_⟩
    · have h := h.1 hc
      exact hQ _ _ _ hF hL h
    · have h := h.2 hc
      refine mnX5_isAtRest (fun r3 I1 L2 hf hl h => ?_) h
      have hF := hF.tr hf (by decide) (by decide)
      have hL := hL.tr hl (by decide) (by decide)
      refine ⟨fun hc => ?_, fun hc => ?_⟩
      · have h := h.1 hc
        exact mnX5_seek_b92 hQ hP24 hF hL h
      · have h := h.2 hc
        refine ⟨fun hc => ?_, fun hc => ?_⟩
        · have h := h.1 hc
          intro I4 eI4
          have h := h I4 eI4
          have hF := hF.pf eI4 (by decide)
          refine mnX5_payOfAll (fun r7 I5 L6 hf hl h => ?_) h
          have hF := hF.tr hf (by decide) (by decide)
          have hL := hL.tr hl (by decide) (by decide)
          intro I8 eI8
          have h := h I8 eI8
          have hF := hF.pf eI8 (by decide)
          refine mnX5_lost (fun r11 I9 L10 hf hl h => ?_) h
          have hF := hF.tr hf (by decide) (by decide)
          have hL := hL.tr hl (by decide) (by decide)
          intro I12 eI12
          have h := h I12 eI12
          have hF := hF.pf eI12 (by decide)
          exact mnX5_seek_b92 hQ hP24 hF hL h
        · have h := h.2 hc
          exact hQ _ _ _ hF hL h
set_option maxRecDepth 10000 in
theorem mnX5_seek_h24 {I0 : Ix} {L0 : Lx} {Q Q' : Bool → Ix → Lx → Prop} (hQ : ∀ (r : Bool) (I1 : Ix) (L1 : Lx), FrI (wsI_X5_seek) (fsI_X5_seek) I0 I1 → FrL (wsL_X5_seek) (fsL_X5_seek) L0 L1 → Q r I1 L1 → Q' r I1 L1) {v1 : Int32} {v2 : Int32} {v3 : Int32} {I : Ix} {L : Lx} (hF : FrI (wsI_X5_seek) (fsI_X5_seek) I0 I) (hL : FrL (wsL_X5_seek) (fsL_X5_seek) L0 L) (h : wpX5_seek_h24 Q v1 v2 v3 I L) : wpX5_seek_h24 Q' v1 v2 v3 I L := by
  unfold wpX5_seek_h24 at h
  refine Lfp.ind (P := fun z => FrI (wsI_X5_seek) (fsI_X5_seek) I0 z.2.2.2.1 → FrL (wsL_X5_seek) (fsL_X5_seek) L0 z.2.2.2.2 → wpX5_seek_h24 Q' z.1 z.2.1 z.2.2.1 z.2.2.2.1 z.2.2.2.2) ?_ h hF hL
  intro z P' hP' h hF hL
  obtain ⟨v1, v2, v3, I, L⟩ := z
  exact wpX5_seek_h24_fold (mnX5_seek_l24 hQ (fun v1 v2 v3 I L hF hL h9 => hP' (v1, v2, v3, I, L) h9 hF hL) hF hL h)
set_option maxRecDepth 10000 in
theorem mnX5_seek {a1 : Int32} {I : Ix} {L : Lx} {Q Q' : Bool → Ix → Lx → Prop} (hQ : ∀ (r : Bool) (I1 : Ix) (L1 : Lx), FrI (wsI_X5_seek) (fsI_X5_seek) I I1 → FrL (wsL_X5_seek) (fsL_X5_seek) L L1 → Q r I1 L1 → Q' r I1 L1) (h : wpX5_seek a1 I L Q) : wpX5_seek a1 I L Q' := by
  have hF : FrI (wsI_X5_seek) (fsI_X5_seek) I I := FrI.rf
  have hL : FrL (wsL_X5_seek) (fsL_X5_seek) L L := FrL.rf
  unfold wpX5_seek at h ⊢
  intro I1 eI1
  have h := h I1 eI1
  have hF := hF.pf eI1 (by decide)
  intro I2 eI2
  have h := h I2 eI2
  have hF := hF.pf eI2 (by decide)
  intro I3 eI3
  have h := h I3 eI3
  have hF := hF.pf eI3 (by decide)
  refine mnX5_listChoices (fun I4 L5 hf hl h => ?_) h
  have hF := hF.tr hf (by decide) (by decide)
  have hL := hL.tr hl (by decide) (by decide)
  exact mnX5_seek_h24 hQ hF hL h
abbrev wsI_X11_rest : List Nat := [83, 84, 82, 81]
abbrev wsL_X11_rest : List Nat := []
abbrev fsI_X11_rest : List (Nat × Nat) := [(80, 6), (80, 7), (80, 8)]
abbrev fsL_X11_rest : List (Nat × Nat) := []
set_option maxRecDepth 10000 in
theorem mnX11_rest {a1 : Int32} {I : Ix} {L : Lx} {Q Q' : Int32 → Ix → Lx → Prop} (hQ : ∀ (r : Int32) (I1 : Ix) (L1 : Lx), FrI (wsI_X11_rest) (fsI_X11_rest) I I1 → FrL (wsL_X11_rest) (fsL_X11_rest) L L1 → Q r I1 L1 → Q' r I1 L1) (h : wpX11_rest a1 I L Q) : wpX11_rest a1 I L Q' := by
  have hF : FrI (wsI_X11_rest) (fsI_X11_rest) I I := FrI.rf
  have hL : FrL (wsL_X11_rest) (fsL_X11_rest) L L := FrL.rf
  unfold wpX11_rest at h ⊢
  refine ⟨fun hc => ?_, fun hc => ?_⟩
  · have h := h.1 hc
    exact hQ _ _ _ hF hL h
  · have h := h.2 hc
    refine ⟨fun hc => ?_, fun hc => ?_⟩
    · have h := h.1 hc
      refine mnX5_isSpent (fun r3 I1 L2 hf hl h => ?_) h
      have hF := hF.tr hf (by decide) (by decide)
      have hL := hL.tr hl (by decide) (by decide)
      refine ⟨fun hc => ?_, fun hc => ?_⟩
      · have h := h.1 hc
        refine mnX5_seek (fun r6 I4 L5 hf hl h => ?_) h
        have hF := hF.tr hf (by decide) (by decide)
        have hL := hL.tr hl (by decide) (by decide)
        refine ⟨fun hc => ?_, fun hc => ?_⟩
        · have h := h.1 hc
          refine ⟨fun hc => ?_, fun hc => ?_⟩
          · have h := h.1 hc
            refine ⟨fun hc => ?_, fun hc => ?_⟩
            · have h := h.1 hc
              exact hQ _ _ _ hF hL h
            · have h := h.2 hc
              exact hQ _ _ _ hF hL h
          · have h := h.2 hc
            exact hQ _ _ _ hF hL h
        · have h := h.2 hc
          exact hQ _ _ _ hF hL h
      · have h := h.2 hc
        exact hQ _ _ _ hF hL h
    · have h := h.2 hc
      exact hQ _ _ _ hF hL h
abbrev wsI_X11_stands : List Nat := [83, 84, 82, 81]
abbrev wsL_X11_stands : List Nat := []
abbrev fsI_X11_stands : List (Nat × Nat) := [(80, 6), (80, 7), (80, 8)]
abbrev fsL_X11_stands : List (Nat × Nat) := []
set_option maxRecDepth 10000 in
theorem mnX11_stands {a1 : Int32} {a2 : Int32} {I : Ix} {L : Lx} {Q Q' : Int32 → Ix → Lx → Prop} (hQ : ∀ (r : Int32) (I1 : Ix) (L1 : Lx), FrI (wsI_X11_stands) (fsI_X11_stands) I I1 → FrL (wsL_X11_stands) (fsL_X11_stands) L L1 → Q r I1 L1 → Q' r I1 L1) (h : wpX11_stands a1 a2 I L Q) : wpX11_stands a1 a2 I L Q' := by
  have hF : FrI (wsI_X11_stands) (fsI_X11_stands) I I := FrI.rf
  have hL : FrL (wsL_X11_stands) (fsL_X11_stands) L L := FrL.rf
  unfold wpX11_stands at h ⊢
  refine ⟨fun hc => ?_, fun hc => ?_⟩
  · have h := h.1 hc
    exact hQ _ _ _ hF hL h
  · have h := h.2 hc
    refine mnX11_isPerson (fun r3 I1 L2 hf hl h => ?_) h
    have hF := hF.tr hf (by decide) (by decide)
    have hL := hL.tr hl (by decide) (by decide)
    refine ⟨fun hc => ?_, fun hc => ?_⟩
    · have h := h.1 hc
      refine mnX5_isSpent (fun r6 I4 L5 hf hl h => ?_) h
      have hF := hF.tr hf (by decide) (by decide)
      have hL := hL.tr hl (by decide) (by decide)
      refine ⟨fun hc => ?_, fun hc => ?_⟩
      · have h := h.1 hc
        refine mnX5_seek (fun r9 I7 L8 hf hl h => ?_) h
        have hF := hF.tr hf (by decide) (by decide)
        have hL := hL.tr hl (by decide) (by decide)
        refine ⟨fun hc => ?_, fun hc => ?_⟩
        · have h := h.1 hc
          exact hQ _ _ _ hF hL h
        · have h := h.2 hc
          refine ⟨h.1, ?_⟩
          have h := h.2
          exact hQ _ _ _ hF hL h
      · have h := h.2 hc
        exact hQ _ _ _ hF hL h
    · have h := h.2 hc
      exact hQ _ _ _ hF hL h
abbrev wsI_X9_madeBy (o1 : Nat) : List Nat := [66, 67, 76, 63, 14, 73, 71, 68, 64, 65, 78, 77, 72, 75, 74]
abbrev wsL_X9_madeBy (o1 : Nat) : List Nat := []
abbrev fsI_X9_madeBy (o1 : Nat) : List (Nat × Nat) := [(70, 1), (70, 2), (70, 0)]
abbrev fsL_X9_madeBy (o1 : Nat) : List (Nat × Nat) := []
set_option maxRecDepth 10000 in
theorem mnX9_madeBy_l14 {o1 : Nat} {I0 : Ix} {L0 : Lx} {Q Q' : Int32 → Ix → Lx → Prop} {P14 P14' : Int32 → Int32 → Int32 → Int32 → Ix → Lx → Prop} (hQ : ∀ (r : Int32) (I1 : Ix) (L1 : Lx), FrI (wsI_X9_madeBy o1) (fsI_X9_madeBy o1) I0 I1 → FrL (wsL_X9_madeBy o1) (fsL_X9_madeBy o1) L0 L1 → Q r I1 L1 → Q' r I1 L1) (hP14 : ∀ (v2 : Int32) (v3 : Int32) (v4 : Int32) (v5 : Int32) (I1 : Ix) (L1 : Lx), FrI (wsI_X9_madeBy o1) (fsI_X9_madeBy o1) I0 I1 → FrL (wsL_X9_madeBy o1) (fsL_X9_madeBy o1) L0 L1 → P14 v2 v3 v4 v5 I1 L1 → P14' v2 v3 v4 v5 I1 L1) {v2 : Int32} {v3 : Int32} {v4 : Int32} {v5 : Int32} {I : Ix} {L : Lx} (hF : FrI (wsI_X9_madeBy o1) (fsI_X9_madeBy o1) I0 I) (hL : FrL (wsL_X9_madeBy o1) (fsL_X9_madeBy o1) L0 L) (h : wpX9_madeBy_l14 o1 Q P14 v2 v3 v4 v5 I L) : wpX9_madeBy_l14 o1 Q' P14' v2 v3 v4 v5 I L := by
  unfold wpX9_madeBy_l14 at h ⊢
  refine ⟨fun hc => ?_, fun hc => ?_⟩
  · have h := h.1 hc
    exact hQ _ _ _ hF hL h
  · have h := h.2 hc
    refine mnX0_live (fun r3 I1 L2 hf hl h => ?_) h
    have hF := hF.tr hf (by intro k hk; first | (simp only [List.mem_cons, List.not_mem_nil, or_false] at hk ⊢; omega) | (simp at hk; done) | (simp at hk ⊢; omega)) (by intro q hq; obtain ⟨k, j⟩ := q; first | (simp only [List.mem_cons, List.not_mem_nil, or_false, Prod.mk.injEq] at hq ⊢; omega) | (simp at hq; done))
    have hL := hL.tr hl (by intro k hk; first | (simp only [List.mem_cons, List.not_mem_nil, or_false] at hk ⊢; omega) | (simp at hk; done) | (simp at hk ⊢; omega)) (by intro q hq; obtain ⟨k, j⟩ := q; first | (simp only [List.mem_cons, List.not_mem_nil, or_false, Prod.mk.injEq] at hq ⊢; omega) | (simp at hq; done))
    exact hP14 _ _ _ _ _ _ hF hL h
set_option maxRecDepth 10000 in
theorem mnX9_madeBy_h14 {o1 : Nat} {I0 : Ix} {L0 : Lx} {Q Q' : Int32 → Ix → Lx → Prop} (hQ : ∀ (r : Int32) (I1 : Ix) (L1 : Lx), FrI (wsI_X9_madeBy o1) (fsI_X9_madeBy o1) I0 I1 → FrL (wsL_X9_madeBy o1) (fsL_X9_madeBy o1) L0 L1 → Q r I1 L1 → Q' r I1 L1) {v2 : Int32} {v3 : Int32} {v4 : Int32} {v5 : Int32} {I : Ix} {L : Lx} (hF : FrI (wsI_X9_madeBy o1) (fsI_X9_madeBy o1) I0 I) (hL : FrL (wsL_X9_madeBy o1) (fsL_X9_madeBy o1) L0 L) (h : wpX9_madeBy_h14 o1 Q v2 v3 v4 v5 I L) : wpX9_madeBy_h14 o1 Q' v2 v3 v4 v5 I L := by
  unfold wpX9_madeBy_h14 at h
  refine Lfp.ind (P := fun z => FrI (wsI_X9_madeBy o1) (fsI_X9_madeBy o1) I0 z.2.2.2.2.1 → FrL (wsL_X9_madeBy o1) (fsL_X9_madeBy o1) L0 z.2.2.2.2.2 → wpX9_madeBy_h14 o1 Q' z.1 z.2.1 z.2.2.1 z.2.2.2.1 z.2.2.2.2.1 z.2.2.2.2.2) ?_ h hF hL
  intro z P' hP' h hF hL
  obtain ⟨v2, v3, v4, v5, I, L⟩ := z
  exact wpX9_madeBy_h14_fold (mnX9_madeBy_l14 hQ (fun v2 v3 v4 v5 I L hF hL h9 => hP' (v2, v3, v4, v5, I, L) h9 hF hL) hF hL h)
set_option maxRecDepth 10000 in
theorem mnX9_madeBy {o1 : Nat} {a2 : Int32} {a3 : Int32} {I : Ix} {L : Lx} {Q Q' : Int32 → Ix → Lx → Prop} (hQ : ∀ (r : Int32) (I1 : Ix) (L1 : Lx), FrI (wsI_X9_madeBy o1) (fsI_X9_madeBy o1) I I1 → FrL (wsL_X9_madeBy o1) (fsL_X9_madeBy o1) L L1 → Q r I1 L1 → Q' r I1 L1) (h : wpX9_madeBy o1 a2 a3 I L Q) : wpX9_madeBy o1 a2 a3 I L Q' := by
  have hF : FrI (wsI_X9_madeBy o1) (fsI_X9_madeBy o1) I I := FrI.rf
  have hL : FrL (wsL_X9_madeBy o1) (fsL_X9_madeBy o1) L L := FrL.rf
  unfold wpX9_madeBy at h ⊢
  refine mnX2_copyFrom (fun I1 L2 hf hl h => ?_) h
  have hF := hF.tr hf (by intro k hk; first | (simp only [List.mem_cons, List.not_mem_nil, or_false] at hk ⊢; omega) | (simp at hk; done) | (simp at hk ⊢; omega)) (by intro q hq; obtain ⟨k, j⟩ := q; first | (simp only [List.mem_cons, List.not_mem_nil, or_false, Prod.mk.injEq] at hq ⊢; omega) | (simp at hq; done))
  have hL := hL.tr hl (by intro k hk; first | (simp only [List.mem_cons, List.not_mem_nil, or_false] at hk ⊢; omega) | (simp at hk; done) | (simp at hk ⊢; omega)) (by intro q hq; obtain ⟨k, j⟩ := q; first | (simp only [List.mem_cons, List.not_mem_nil, or_false, Prod.mk.injEq] at hq ⊢; omega) | (simp at hq; done))
  exact mnX9_madeBy_h14 hQ hF hL h
abbrev wsI_X9_madeKept (o1 : Nat) : List Nat := [77, 72, 75, 71, 76, 78, 73, 74]
abbrev wsL_X9_madeKept (o1 : Nat) : List Nat := []
abbrev fsI_X9_madeKept (o1 : Nat) : List (Nat × Nat) := [(70, 0), (70, 1), (70, 2)]
abbrev fsL_X9_madeKept (o1 : Nat) : List (Nat × Nat) := []
set_option maxRecDepth 10000 in
theorem mnX9_madeKept_l13 {o1 : Nat} {I0 : Ix} {L0 : Lx} {Q Q' : Int32 → Ix → Lx → Prop} {P13 P13' : Int32 → Int32 → Int32 → Ix → Lx → Prop} (hQ : ∀ (r : Int32) (I1 : Ix) (L1 : Lx), FrI (wsI_X9_madeKept o1) (fsI_X9_madeKept o1) I0 I1 → FrL (wsL_X9_madeKept o1) (fsL_X9_madeKept o1) L0 L1 → Q r I1 L1 → Q' r I1 L1) (hP13 : ∀ (v2 : Int32) (v3 : Int32) (v4 : Int32) (I1 : Ix) (L1 : Lx), FrI (wsI_X9_madeKept o1) (fsI_X9_madeKept o1) I0 I1 → FrL (wsL_X9_madeKept o1) (fsL_X9_madeKept o1) L0 L1 → P13 v2 v3 v4 I1 L1 → P13' v2 v3 v4 I1 L1) {v2 : Int32} {v3 : Int32} {v4 : Int32} {I : Ix} {L : Lx} (hF : FrI (wsI_X9_madeKept o1) (fsI_X9_madeKept o1) I0 I) (hL : FrL (wsL_X9_madeKept o1) (fsL_X9_madeKept o1) L0 L) (h : wpX9_madeKept_l13 o1 Q P13 v2 v3 v4 I L) : wpX9_madeKept_l13 o1 Q' P13' v2 v3 v4 I L := by
  unfold wpX9_madeKept_l13 at h ⊢
  refine ⟨fun hc => ?_, fun hc => ?_⟩
  · have h := h.1 hc
    exact hQ _ _ _ hF hL h
  · have h := h.2 hc
    refine mnX0_use (fun r3 I1 L2 hf hl h => ?_) h
    have hF := hF.tr hf (by intro k hk; first | (simp only [List.mem_cons, List.not_mem_nil, or_false] at hk ⊢; omega) | (simp at hk; done) | (simp at hk ⊢; omega)) (by intro q hq; obtain ⟨k, j⟩ := q; first | (simp only [List.mem_cons, List.not_mem_nil, or_false, Prod.mk.injEq] at hq ⊢; omega) | (simp at hq; done))
    have hL := hL.tr hl (by intro k hk; first | (simp only [List.mem_cons, List.not_mem_nil, or_false] at hk ⊢; omega) | (simp at hk; done) | (simp at hk ⊢; omega)) (by intro q hq; obtain ⟨k, j⟩ := q; first | (simp only [List.mem_cons, List.not_mem_nil, or_false, Prod.mk.injEq] at hq ⊢; omega) | (simp at hq; done))
    refine mnX0_mend (fun I4 L5 hf hl h => ?_) h
    have hF := hF.tr hf (by intro k hk; first | (simp only [List.mem_cons, List.not_mem_nil, or_false] at hk ⊢; omega) | (simp at hk; done) | (simp at hk ⊢; omega)) (by intro q hq; obtain ⟨k, j⟩ := q; first | (simp only [List.mem_cons, List.not_mem_nil, or_false, Prod.mk.injEq] at hq ⊢; omega) | (simp at hq; done))
    have hL := hL.tr hl (by intro k hk; first | (simp only [List.mem_cons, List.not_mem_nil, or_false] at hk ⊢; omega) | (simp at hk; done) | (simp at hk ⊢; omega)) (by intro q hq; obtain ⟨k, j⟩ := q; first | (simp only [List.mem_cons, List.not_mem_nil, or_false, Prod.mk.injEq] at hq ⊢; omega) | (simp at hq; done))
    exact hP13 _ _ _ _ _ hF hL h
set_option maxRecDepth 10000 in
theorem mnX9_madeKept_h13 {o1 : Nat} {I0 : Ix} {L0 : Lx} {Q Q' : Int32 → Ix → Lx → Prop} (hQ : ∀ (r : Int32) (I1 : Ix) (L1 : Lx), FrI (wsI_X9_madeKept o1) (fsI_X9_madeKept o1) I0 I1 → FrL (wsL_X9_madeKept o1) (fsL_X9_madeKept o1) L0 L1 → Q r I1 L1 → Q' r I1 L1) {v2 : Int32} {v3 : Int32} {v4 : Int32} {I : Ix} {L : Lx} (hF : FrI (wsI_X9_madeKept o1) (fsI_X9_madeKept o1) I0 I) (hL : FrL (wsL_X9_madeKept o1) (fsL_X9_madeKept o1) L0 L) (h : wpX9_madeKept_h13 o1 Q v2 v3 v4 I L) : wpX9_madeKept_h13 o1 Q' v2 v3 v4 I L := by
  unfold wpX9_madeKept_h13 at h
  refine Lfp.ind (P := fun z => FrI (wsI_X9_madeKept o1) (fsI_X9_madeKept o1) I0 z.2.2.2.1 → FrL (wsL_X9_madeKept o1) (fsL_X9_madeKept o1) L0 z.2.2.2.2 → wpX9_madeKept_h13 o1 Q' z.1 z.2.1 z.2.2.1 z.2.2.2.1 z.2.2.2.2) ?_ h hF hL
  intro z P' hP' h hF hL
  obtain ⟨v2, v3, v4, I, L⟩ := z
  exact wpX9_madeKept_h13_fold (mnX9_madeKept_l13 hQ (fun v2 v3 v4 I L hF hL h9 => hP' (v2, v3, v4, I, L) h9 hF hL) hF hL h)
set_option maxRecDepth 10000 in
theorem mnX9_madeKept {o1 : Nat} {a2 : Int32} {I : Ix} {L : Lx} {Q Q' : Int32 → Ix → Lx → Prop} (hQ : ∀ (r : Int32) (I1 : Ix) (L1 : Lx), FrI (wsI_X9_madeKept o1) (fsI_X9_madeKept o1) I I1 → FrL (wsL_X9_madeKept o1) (fsL_X9_madeKept o1) L L1 → Q r I1 L1 → Q' r I1 L1) (h : wpX9_madeKept o1 a2 I L Q) : wpX9_madeKept o1 a2 I L Q' := by
  have hF : FrI (wsI_X9_madeKept o1) (fsI_X9_madeKept o1) I I := FrI.rf
  have hL : FrL (wsL_X9_madeKept o1) (fsL_X9_madeKept o1) L L := FrL.rf
  unfold wpX9_madeKept at h ⊢
  refine mnX2_copyFrom (fun I1 L2 hf hl h => ?_) h
  have hF := hF.tr hf (by intro k hk; first | (simp only [List.mem_cons, List.not_mem_nil, or_false] at hk ⊢; omega) | (simp at hk; done) | (simp at hk ⊢; omega)) (by intro q hq; obtain ⟨k, j⟩ := q; first | (simp only [List.mem_cons, List.not_mem_nil, or_false, Prod.mk.injEq] at hq ⊢; omega) | (simp at hq; done))
  have hL := hL.tr hl (by intro k hk; first | (simp only [List.mem_cons, List.not_mem_nil, or_false] at hk ⊢; omega) | (simp at hk; done) | (simp at hk ⊢; omega)) (by intro q hq; obtain ⟨k, j⟩ := q; first | (simp only [List.mem_cons, List.not_mem_nil, or_false, Prod.mk.injEq] at hq ⊢; omega) | (simp at hq; done))
  exact mnX9_madeKept_h13 hQ hF hL h
abbrev wsI_X11_made : List Nat := [66, 67, 76, 63, 14, 73, 71, 68, 64, 65, 78, 77, 72, 75, 74]
abbrev wsL_X11_made : List Nat := []
abbrev fsI_X11_made : List (Nat × Nat) := [(70, 1), (70, 2), (70, 0)]
abbrev fsL_X11_made : List (Nat × Nat) := []
set_option maxRecDepth 10000 in
theorem mnX11_made_b65 {I0 : Ix} {L0 : Lx} {Q Q' : Int32 → Ix → Lx → Prop} (hQ : ∀ (r : Int32) (I1 : Ix) (L1 : Lx), FrI (wsI_X11_made) (fsI_X11_made) I0 I1 → FrL (wsL_X11_made) (fsL_X11_made) L0 L1 → Q r I1 L1 → Q' r I1 L1) {t2 : Int32} {t3 : Int32} {I : Ix} {L : Lx} (hF : FrI (wsI_X11_made) (fsI_X11_made) I0 I) (hL : FrL (wsL_X11_made) (fsL_X11_made) L0 L) (h : wpX11_made_b65 Q t2 t3 I L) : wpX11_made_b65 Q' t2 t3 I L := by
  unfold wpX11_made_b65 at h ⊢
  refine mnX9_madeBy (fun r3 I1 L2 hf hl h => ?_) h
  have hF := hF.tr hf (by decide) (by decide)
  have hL := hL.tr hl (by decide) (by decide)
  exact hQ _ _ _ hF hL h
set_option maxRecDepth 10000 in
theorem mnX11_made {a1 : Int32} {a2 : Int32} {I : Ix} {L : Lx} {Q Q' : Int32 → Ix → Lx → Prop} (hQ : ∀ (r : Int32) (I1 : Ix) (L1 : Lx), FrI (wsI_X11_made) (fsI_X11_made) I I1 → FrL (wsL_X11_made) (fsL_X11_made) L L1 → Q r I1 L1 → Q' r I1 L1) (h : wpX11_made a1 a2 I L Q) : wpX11_made a1 a2 I L Q' := by
  have hF : FrI (wsI_X11_made) (fsI_X11_made) I I := FrI.rf
  have hL : FrL (wsL_X11_made) (fsL_X11_made) L L := FrL.rf
  unfold wpX11_made at h ⊢
  refine ⟨fun hc => ?_, fun hc => ?_⟩
  · have h := h.1 hc
    exact hQ _ _ _ hF hL h
  · have h := h.2 hc
    refine ⟨fun hc => ?_, fun hc => ?_⟩
    · have h := h.1 hc
      exact hQ _ _ _ hF hL h
    · have h := h.2 hc
      refine ⟨fun hc => ?_, fun hc => ?_⟩
      · have h := h.1 hc
        exact hQ _ _ _ hF hL h
      · have h := h.2 hc
        refine ⟨fun hc => ?_, fun hc => ?_⟩
        · have h := h.1 hc
          refine ⟨fun hc => ?_, fun hc => ?_⟩
          · have h := h.1 hc
            refine ⟨fun hc => ?_, fun hc => ?_⟩
            · have h := h.1 hc
              exact mnX11_made_b65 hQ hF hL h
            · have h := h.2 hc
              exact mnX11_made_b65 hQ hF hL h
          · have h := h.2 hc
            refine mnX9_madeKept (fun r3 I1 L2 hf hl h => ?_) h
            have hF := hF.tr hf (by decide) (by decide)
            have hL := hL.tr hl (by decide) (by decide)
            exact hQ _ _ _ hF hL h
        · have h := h.2 hc
          exact hQ _ _ _ hF hL h
abbrev wsI_X11_law : List Nat := [66, 67, 76, 63, 14, 73, 71, 68, 64, 65, 78, 77, 72, 75, 74]
abbrev wsL_X11_law : List Nat := []
abbrev fsI_X11_law : List (Nat × Nat) := [(70, 1), (70, 2), (70, 0)]
abbrev fsL_X11_law : List (Nat × Nat) := []
set_option maxRecDepth 10000 in
theorem mnX11_law_l31 {I0 : Ix} {L0 : Lx} {Q Q' : Int32 → Ix → Lx → Prop} {P31 P31' : Int32 → Int32 → Int32 → Int32 → Ix → Lx → Prop} (hQ : ∀ (r : Int32) (I1 : Ix) (L1 : Lx), FrI (wsI_X11_law) (fsI_X11_law) I0 I1 → FrL (wsL_X11_law) (fsL_X11_law) L0 L1 → Q r I1 L1 → Q' r I1 L1) (hP31 : ∀ (v1 : Int32) (v2 : Int32) (v3 : Int32) (v4 : Int32) (I1 : Ix) (L1 : Lx), FrI (wsI_X11_law) (fsI_X11_law) I0 I1 → FrL (wsL_X11_law) (fsL_X11_law) L0 L1 → P31 v1 v2 v3 v4 I1 L1 → P31' v1 v2 v3 v4 I1 L1) {v1 : Int32} {v2 : Int32} {v3 : Int32} {v4 : Int32} {I : Ix} {L : Lx} (hF : FrI (wsI_X11_law) (fsI_X11_law) I0 I) (hL : FrL (wsL_X11_law) (fsL_X11_law) L0 L) (h : wpX11_law_l31 Q P31 v1 v2 v3 v4 I L) : wpX11_law_l31 Q' P31' v1 v2 v3 v4 I L := by
  unfold wpX11_law_l31 at h ⊢
  refine ⟨fun hc => ?_, fun hc => ?_⟩
  · have h := h.1 hc
    exact hQ _ _ _ hF hL h
  · have h := h.2 hc
    refine mnX9_madeBy (fun r3 I1 L2 hf hl h => ?_) h
    have hF := hF.tr hf (by decide) (by decide)
    have hL := hL.tr hl (by decide) (by decide)
    refine ⟨fun hc => ?_, fun hc => ?_⟩
    · have h := h.1 hc
      exact hP31 _ _ _ _ _ _ hF hL h
    · have h := h.2 hc
      exact hP31 _ _ _ _ _ _ hF hL h
set_option maxRecDepth 10000 in
theorem mnX11_law_h31 {I0 : Ix} {L0 : Lx} {Q Q' : Int32 → Ix → Lx → Prop} (hQ : ∀ (r : Int32) (I1 : Ix) (L1 : Lx), FrI (wsI_X11_law) (fsI_X11_law) I0 I1 → FrL (wsL_X11_law) (fsL_X11_law) L0 L1 → Q r I1 L1 → Q' r I1 L1) {v1 : Int32} {v2 : Int32} {v3 : Int32} {v4 : Int32} {I : Ix} {L : Lx} (hF : FrI (wsI_X11_law) (fsI_X11_law) I0 I) (hL : FrL (wsL_X11_law) (fsL_X11_law) L0 L) (h : wpX11_law_h31 Q v1 v2 v3 v4 I L) : wpX11_law_h31 Q' v1 v2 v3 v4 I L := by
  unfold wpX11_law_h31 at h
  refine Lfp.ind (P := fun z => FrI (wsI_X11_law) (fsI_X11_law) I0 z.2.2.2.2.1 → FrL (wsL_X11_law) (fsL_X11_law) L0 z.2.2.2.2.2 → wpX11_law_h31 Q' z.1 z.2.1 z.2.2.1 z.2.2.2.1 z.2.2.2.2.1 z.2.2.2.2.2) ?_ h hF hL
  intro z P' hP' h hF hL
  obtain ⟨v1, v2, v3, v4, I, L⟩ := z
  exact wpX11_law_h31_fold (mnX11_law_l31 hQ (fun v1 v2 v3 v4 I L hF hL h9 => hP' (v1, v2, v3, v4, I, L) h9 hF hL) hF hL h)
set_option maxRecDepth 10000 in
theorem mnX11_law {a1 : Int32} {I : Ix} {L : Lx} {Q Q' : Int32 → Ix → Lx → Prop} (hQ : ∀ (r : Int32) (I1 : Ix) (L1 : Lx), FrI (wsI_X11_law) (fsI_X11_law) I I1 → FrL (wsL_X11_law) (fsL_X11_law) L L1 → Q r I1 L1 → Q' r I1 L1) (h : wpX11_law a1 I L Q) : wpX11_law a1 I L Q' := by
  have hF : FrI (wsI_X11_law) (fsI_X11_law) I I := FrI.rf
  have hL : FrL (wsL_X11_law) (fsL_X11_law) L L := FrL.rf
  unfold wpX11_law at h ⊢
  refine ⟨fun hc => ?_, fun hc => ?_⟩
  · have h := h.1 hc
    exact hQ _ _ _ hF hL h
  · have h := h.2 hc
    refine ⟨fun hc => ?_, fun hc => ?_⟩
    · have h := h.1 hc
      refine mnX9_madeBy (fun r3 I1 L2 hf hl h => ?_) h
      have hF := hF.tr hf (by decide) (by decide)
      have hL := hL.tr hl (by decide) (by decide)
      exact mnX11_law_h31 hQ hF hL h
    · have h := h.2 hc
      exact hQ _ _ _ hF hL h
abbrev wsI_X9_mostOfDay (o1 : Nat) : List Nat := []
abbrev wsL_X9_mostOfDay (o1 : Nat) : List Nat := []
abbrev fsI_X9_mostOfDay (o1 : Nat) : List (Nat × Nat) := [(69, 6)]
abbrev fsL_X9_mostOfDay (o1 : Nat) : List (Nat × Nat) := []
set_option maxRecDepth 10000 in
theorem mnX9_mostOfDay_b92 {o1 : Nat} {I0 : Ix} {L0 : Lx} {Q Q' : Int64 → Ix → Lx → Prop} {P8 P8' : Int32 → Int32 → Int32 → Int64 → Int32 → Ix → Lx → Prop} (hQ : ∀ (r : Int64) (I1 : Ix) (L1 : Lx), FrI (wsI_X9_mostOfDay o1) (fsI_X9_mostOfDay o1) I0 I1 → FrL (wsL_X9_mostOfDay o1) (fsL_X9_mostOfDay o1) L0 L1 → Q r I1 L1 → Q' r I1 L1) (hP8 : ∀ (v2 : Int32) (v3 : Int32) (v4 : Int32) (v5 : Int64) (v7 : Int32) (I1 : Ix) (L1 : Lx), FrI (wsI_X9_mostOfDay o1) (fsI_X9_mostOfDay o1) I0 I1 → FrL (wsL_X9_mostOfDay o1) (fsL_X9_mostOfDay o1) L0 L1 → P8 v2 v3 v4 v5 v7 I1 L1 → P8' v2 v3 v4 v5 v7 I1 L1) {v2 : Int32} {v3 : Int32} {v4 : Int32} {v5 : Int64} {v7 : Int32} {v8 : Int64} {I : Ix} {L : Lx} (hF : FrI (wsI_X9_mostOfDay o1) (fsI_X9_mostOfDay o1) I0 I) (hL : FrL (wsL_X9_mostOfDay o1) (fsL_X9_mostOfDay o1) L0 L) (h : wpX9_mostOfDay_b92 o1 Q P8 v2 v3 v4 v5 v7 v8 I L) : wpX9_mostOfDay_b92 o1 Q' P8' v2 v3 v4 v5 v7 v8 I L := by
  unfold wpX9_mostOfDay_b92 at h ⊢
  refine ⟨fun hc => ?_, fun hc => ?_⟩
  · have h := h.1 hc
    exact hP8 _ _ _ _ _ _ _ hF hL h
  · have h := h.2 hc
    intro I1 eI1
    have h := h I1 eI1
    have hF := hF.pf eI1 (by simp)
    exact hP8 _ _ _ _ _ _ _ hF hL h
set_option maxRecDepth 10000 in
theorem mnX9_mostOfDay_b49 {o1 : Nat} {I0 : Ix} {L0 : Lx} {Q Q' : Int64 → Ix → Lx → Prop} {P8 P8' : Int32 → Int32 → Int32 → Int64 → Int32 → Ix → Lx → Prop} (hQ : ∀ (r : Int64) (I1 : Ix) (L1 : Lx), FrI (wsI_X9_mostOfDay o1) (fsI_X9_mostOfDay o1) I0 I1 → FrL (wsL_X9_mostOfDay o1) (fsL_X9_mostOfDay o1) L0 L1 → Q r I1 L1 → Q' r I1 L1) (hP8 : ∀ (v2 : Int32) (v3 : Int32) (v4 : Int32) (v5 : Int64) (v7 : Int32) (I1 : Ix) (L1 : Lx), FrI (wsI_X9_mostOfDay o1) (fsI_X9_mostOfDay o1) I0 I1 → FrL (wsL_X9_mostOfDay o1) (fsL_X9_mostOfDay o1) L0 L1 → P8 v2 v3 v4 v5 v7 I1 L1 → P8' v2 v3 v4 v5 v7 I1 L1) {v2 : Int32} {v3 : Int32} {v4 : Int32} {v5 : Int64} {v7 : Int32} {v8 : Int64} {I : Ix} {L : Lx} (hF : FrI (wsI_X9_mostOfDay o1) (fsI_X9_mostOfDay o1) I0 I) (hL : FrL (wsL_X9_mostOfDay o1) (fsL_X9_mostOfDay o1) L0 L) (h : wpX9_mostOfDay_b49 o1 Q P8 v2 v3 v4 v5 v7 v8 I L) : wpX9_mostOfDay_b49 o1 Q' P8' v2 v3 v4 v5 v7 v8 I L := by
  unfold wpX9_mostOfDay_b49 at h ⊢
  refine ⟨h.1, ?_⟩
  have h := h.2
  refine ⟨h.1, ?_⟩
  have h := h.2
  exact mnX9_mostOfDay_b92 hQ hP8 hF hL h
set_option maxRecDepth 10000 in
theorem mnX9_mostOfDay_l8 {o1 : Nat} {I0 : Ix} {L0 : Lx} {Q Q' : Int64 → Ix → Lx → Prop} {P8 P8' : Int32 → Int32 → Int32 → Int64 → Int32 → Ix → Lx → Prop} (hQ : ∀ (r : Int64) (I1 : Ix) (L1 : Lx), FrI (wsI_X9_mostOfDay o1) (fsI_X9_mostOfDay o1) I0 I1 → FrL (wsL_X9_mostOfDay o1) (fsL_X9_mostOfDay o1) L0 L1 → Q r I1 L1 → Q' r I1 L1) (hP8 : ∀ (v2 : Int32) (v3 : Int32) (v4 : Int32) (v5 : Int64) (v7 : Int32) (I1 : Ix) (L1 : Lx), FrI (wsI_X9_mostOfDay o1) (fsI_X9_mostOfDay o1) I0 I1 → FrL (wsL_X9_mostOfDay o1) (fsL_X9_mostOfDay o1) L0 L1 → P8 v2 v3 v4 v5 v7 I1 L1 → P8' v2 v3 v4 v5 v7 I1 L1) {v2 : Int32} {v3 : Int32} {v4 : Int32} {v5 : Int64} {v7 : Int32} {I : Ix} {L : Lx} (hF : FrI (wsI_X9_mostOfDay o1) (fsI_X9_mostOfDay o1) I0 I) (hL : FrL (wsL_X9_mostOfDay o1) (fsL_X9_mostOfDay o1) L0 L) (h : wpX9_mostOfDay_l8 o1 Q P8 v2 v3 v4 v5 v7 I L) : wpX9_mostOfDay_l8 o1 Q' P8' v2 v3 v4 v5 v7 I L := by
  unfold wpX9_mostOfDay_l8 at h ⊢
  refine ⟨fun hc => ?_, fun hc => ?_⟩
  · have h := h.1 hc
    exact hQ _ _ _ hF hL h
  · have h := h.2 hc
    refine ⟨h.1, ?_⟩
    have h := h.2
    refine ⟨fun hc => ?_, fun hc => ?_⟩
    · have h := h.1 hc
      exact mnX9_mostOfDay_b49 hQ hP8 hF hL h
    · have h := h.2 hc
      refine ⟨h.1, ?_⟩
      have h := h.2
      refine ⟨fun hc => ?_, fun hc => ?_⟩
      · have h := h.1 hc
        exact mnX9_mostOfDay_b92 hQ hP8 hF hL h
      · have h := h.2 hc
        exact mnX9_mostOfDay_b49 hQ hP8 hF hL h
set_option maxRecDepth 10000 in
theorem mnX9_mostOfDay_h8 {o1 : Nat} {I0 : Ix} {L0 : Lx} {Q Q' : Int64 → Ix → Lx → Prop} (hQ : ∀ (r : Int64) (I1 : Ix) (L1 : Lx), FrI (wsI_X9_mostOfDay o1) (fsI_X9_mostOfDay o1) I0 I1 → FrL (wsL_X9_mostOfDay o1) (fsL_X9_mostOfDay o1) L0 L1 → Q r I1 L1 → Q' r I1 L1) {v2 : Int32} {v3 : Int32} {v4 : Int32} {v5 : Int64} {v7 : Int32} {I : Ix} {L : Lx} (hF : FrI (wsI_X9_mostOfDay o1) (fsI_X9_mostOfDay o1) I0 I) (hL : FrL (wsL_X9_mostOfDay o1) (fsL_X9_mostOfDay o1) L0 L) (h : wpX9_mostOfDay_h8 o1 Q v2 v3 v4 v5 v7 I L) : wpX9_mostOfDay_h8 o1 Q' v2 v3 v4 v5 v7 I L := by
  unfold wpX9_mostOfDay_h8 at h
  refine Lfp.ind (P := fun z => FrI (wsI_X9_mostOfDay o1) (fsI_X9_mostOfDay o1) I0 z.2.2.2.2.2.1 → FrL (wsL_X9_mostOfDay o1) (fsL_X9_mostOfDay o1) L0 z.2.2.2.2.2.2 → wpX9_mostOfDay_h8 o1 Q' z.1 z.2.1 z.2.2.1 z.2.2.2.1 z.2.2.2.2.1 z.2.2.2.2.2.1 z.2.2.2.2.2.2) ?_ h hF hL
  intro z P' hP' h hF hL
  obtain ⟨v2, v3, v4, v5, v7, I, L⟩ := z
  exact wpX9_mostOfDay_h8_fold (mnX9_mostOfDay_l8 hQ (fun v2 v3 v4 v5 v7 I L hF hL h9 => hP' (v2, v3, v4, v5, v7, I, L) h9 hF hL) hF hL h)
set_option maxRecDepth 10000 in
theorem mnX9_mostOfDay {o1 : Nat} {a2 : Int32} {a3 : Int32} {a4 : Int32} {I : Ix} {L : Lx} {Q Q' : Int64 → Ix → Lx → Prop} (hQ : ∀ (r : Int64) (I1 : Ix) (L1 : Lx), FrI (wsI_X9_mostOfDay o1) (fsI_X9_mostOfDay o1) I I1 → FrL (wsL_X9_mostOfDay o1) (fsL_X9_mostOfDay o1) L L1 → Q r I1 L1 → Q' r I1 L1) (h : wpX9_mostOfDay o1 a2 a3 a4 I L Q) : wpX9_mostOfDay o1 a2 a3 a4 I L Q' := by
  have hF : FrI (wsI_X9_mostOfDay o1) (fsI_X9_mostOfDay o1) I I := FrI.rf
  have hL : FrL (wsL_X9_mostOfDay o1) (fsL_X9_mostOfDay o1) L L := FrL.rf
  unfold wpX9_mostOfDay at h ⊢
  exact mnX9_mostOfDay_h8 hQ hF hL h
abbrev wsI_X9_useWell (o1 : Nat) : List Nat := []
abbrev wsL_X9_useWell (o1 : Nat) : List Nat := [79]
abbrev fsI_X9_useWell (o1 : Nat) : List (Nat × Nat) := [(69, 6)]
abbrev fsL_X9_useWell (o1 : Nat) : List (Nat × Nat) := []
set_option maxRecDepth 10000 in
theorem mnX9_useWell_l45 {o1 : Nat} {I0 : Ix} {L0 : Lx} {Q Q' : Int32 → Ix → Lx → Prop} {P35 P35' : Int32 → Int32 → Int32 → Int32 → Int32 → Ix → Lx → Prop} {P45 P45' : Int32 → Int32 → Int32 → Int32 → Int32 → Int32 → Ix → Lx → Prop} (hQ : ∀ (r : Int32) (I1 : Ix) (L1 : Lx), FrI (wsI_X9_useWell o1) (fsI_X9_useWell o1) I0 I1 → FrL (wsL_X9_useWell o1) (fsL_X9_useWell o1) L0 L1 → Q r I1 L1 → Q' r I1 L1) (hP35 : ∀ (v2 : Int32) (v3 : Int32) (v4 : Int32) (v5 : Int32) (v6 : Int32) (I1 : Ix) (L1 : Lx), FrI (wsI_X9_useWell o1) (fsI_X9_useWell o1) I0 I1 → FrL (wsL_X9_useWell o1) (fsL_X9_useWell o1) L0 L1 → P35 v2 v3 v4 v5 v6 I1 L1 → P35' v2 v3 v4 v5 v6 I1 L1) (hP45 : ∀ (v2 : Int32) (v3 : Int32) (v4 : Int32) (v5 : Int32) (v6 : Int32) (v7 : Int32) (I1 : Ix) (L1 : Lx), FrI (wsI_X9_useWell o1) (fsI_X9_useWell o1) I0 I1 → FrL (wsL_X9_useWell o1) (fsL_X9_useWell o1) L0 L1 → P45 v2 v3 v4 v5 v6 v7 I1 L1 → P45' v2 v3 v4 v5 v6 v7 I1 L1) {v2 : Int32} {v3 : Int32} {v4 : Int32} {v5 : Int32} {v6 : Int32} {v7 : Int32} {I : Ix} {L : Lx} (hF : FrI (wsI_X9_useWell o1) (fsI_X9_useWell o1) I0 I) (hL : FrL (wsL_X9_useWell o1) (fsL_X9_useWell o1) L0 L) (h : wpX9_useWell_l45 o1 Q P35 P45 v2 v3 v4 v5 v6 v7 I L) : wpX9_useWell_l45 o1 Q' P35' P45' v2 v3 v4 v5 v6 v7 I L := by
  unfold wpX9_useWell_l45 at h ⊢
  refine ⟨fun hc => ?_, fun hc => ?_⟩
  · have h := h.1 hc
    exact hP35 _ _ _ _ _ _ _ hF hL h
  · have h := h.2 hc
    refine mnX9_mostOfDay (fun r3 I1 L2 hf hl h => ?_) h
    have hF := hF.tr hf (by intro k hk; first | (simp only [List.mem_cons, List.not_mem_nil, or_false] at hk ⊢; omega) | (simp at hk; done) | (simp at hk ⊢; omega)) (by intro q hq; obtain ⟨k, j⟩ := q; first | (simp only [List.mem_cons, List.not_mem_nil, or_false, Prod.mk.injEq] at hq ⊢; omega) | (simp at hq; done))
    have hL := hL.tr hl (by intro k hk; first | (simp only [List.mem_cons, List.not_mem_nil, or_false] at hk ⊢; omega) | (simp at hk; done) | (simp at hk ⊢; omega)) (by intro q hq; obtain ⟨k, j⟩ := q; first | (simp only [List.mem_cons, List.not_mem_nil, or_false, Prod.mk.injEq] at hq ⊢; omega) | (simp at hq; done))
    refine ⟨h.1, ?_⟩
    have h := h.2
    intro L4 eL4
    have h := h L4 eL4
    have hL := hL.pw eL4 (by simp)
    exact hP45 _ _ _ _ _ _ _ _ hF hL h
set_option maxRecDepth 10000 in
theorem mnX9_useWell_h45 {o1 : Nat} {I0 : Ix} {L0 : Lx} {Q Q' : Int32 → Ix → Lx → Prop} {P35 P35' : Int32 → Int32 → Int32 → Int32 → Int32 → Ix → Lx → Prop} (hQ : ∀ (r : Int32) (I1 : Ix) (L1 : Lx), FrI (wsI_X9_useWell o1) (fsI_X9_useWell o1) I0 I1 → FrL (wsL_X9_useWell o1) (fsL_X9_useWell o1) L0 L1 → Q r I1 L1 → Q' r I1 L1) (hP35 : ∀ (v2 : Int32) (v3 : Int32) (v4 : Int32) (v5 : Int32) (v6 : Int32) (I1 : Ix) (L1 : Lx), FrI (wsI_X9_useWell o1) (fsI_X9_useWell o1) I0 I1 → FrL (wsL_X9_useWell o1) (fsL_X9_useWell o1) L0 L1 → P35 v2 v3 v4 v5 v6 I1 L1 → P35' v2 v3 v4 v5 v6 I1 L1) {v2 : Int32} {v3 : Int32} {v4 : Int32} {v5 : Int32} {v6 : Int32} {v7 : Int32} {I : Ix} {L : Lx} (hF : FrI (wsI_X9_useWell o1) (fsI_X9_useWell o1) I0 I) (hL : FrL (wsL_X9_useWell o1) (fsL_X9_useWell o1) L0 L) (h : wpX9_useWell_h45 o1 Q P35 v2 v3 v4 v5 v6 v7 I L) : wpX9_useWell_h45 o1 Q' P35' v2 v3 v4 v5 v6 v7 I L := by
  unfold wpX9_useWell_h45 at h
  refine Lfp.ind (P := fun z => FrI (wsI_X9_useWell o1) (fsI_X9_useWell o1) I0 z.2.2.2.2.2.2.1 → FrL (wsL_X9_useWell o1) (fsL_X9_useWell o1) L0 z.2.2.2.2.2.2.2 → wpX9_useWell_h45 o1 Q' P35' z.1 z.2.1 z.2.2.1 z.2.2.2.1 z.2.2.2.2.1 z.2.2.2.2.2.1 z.2.2.2.2.2.2.1 z.2.2.2.2.2.2.2) ?_ h hF hL
  intro z P' hP' h hF hL
  obtain ⟨v2, v3, v4, v5, v6, v7, I, L⟩ := z
  exact wpX9_useWell_h45_fold (mnX9_useWell_l45 hQ hP35 (fun v2 v3 v4 v5 v6 v7 I L hF hL h9 => hP' (v2, v3, v4, v5, v6, v7, I, L) h9 hF hL) hF hL h)
set_option maxRecDepth 10000 in
theorem mnX9_useWell_l35 {o1 : Nat} {I0 : Ix} {L0 : Lx} {Q Q' : Int32 → Ix → Lx → Prop} {P35 P35' : Int32 → Int32 → Int32 → Int32 → Int32 → Ix → Lx → Prop} (hQ : ∀ (r : Int32) (I1 : Ix) (L1 : Lx), FrI (wsI_X9_useWell o1) (fsI_X9_useWell o1) I0 I1 → FrL (wsL_X9_useWell o1) (fsL_X9_useWell o1) L0 L1 → Q r I1 L1 → Q' r I1 L1) (hP35 : ∀ (v2 : Int32) (v3 : Int32) (v4 : Int32) (v5 : Int32) (v6 : Int32) (I1 : Ix) (L1 : Lx), FrI (wsI_X9_useWell o1) (fsI_X9_useWell o1) I0 I1 → FrL (wsL_X9_useWell o1) (fsL_X9_useWell o1) L0 L1 → P35 v2 v3 v4 v5 v6 I1 L1 → P35' v2 v3 v4 v5 v6 I1 L1) {v2 : Int32} {v3 : Int32} {v4 : Int32} {v5 : Int32} {v6 : Int32} {I : Ix} {L : Lx} (hF : FrI (wsI_X9_useWell o1) (fsI_X9_useWell o1) I0 I) (hL : FrL (wsL_X9_useWell o1) (fsL_X9_useWell o1) L0 L) (h : wpX9_useWell_l35 o1 Q P35 v2 v3 v4 v5 v6 I L) : wpX9_useWell_l35 o1 Q' P35' v2 v3 v4 v5 v6 I L := by
  unfold wpX9_useWell_l35 at h ⊢
  refine ⟨fun hc => ?_, fun hc => ?_⟩
  · have h := h.1 hc
    refine mnX9_mostOfDay (fun r3 I1 L2 hf hl h => ?_) h
    have hF := hF.tr hf (by intro k hk; first | (simp only [List.mem_cons, List.not_mem_nil, or_false] at hk ⊢; omega) | (simp at hk; done) | (simp at hk ⊢; omega)) (by intro q hq; obtain ⟨k, j⟩ := q; first | (simp only [List.mem_cons, List.not_mem_nil, or_false, Prod.mk.injEq] at hq ⊢; omega) | (simp at hq; done))
    have hL := hL.tr hl (by intro k hk; first | (simp only [List.mem_cons, List.not_mem_nil, or_false] at hk ⊢; omega) | (simp at hk; done) | (simp at hk ⊢; omega)) (by intro q hq; obtain ⟨k, j⟩ := q; first | (simp only [List.mem_cons, List.not_mem_nil, or_false, Prod.mk.injEq] at hq ⊢; omega) | (simp at hq; done))
    exact hQ _ _ _ hF hL h
  · have h := h.2 hc
    exact mnX9_useWell_h45 hQ hP35 hF hL h
set_option maxRecDepth 10000 in
theorem mnX9_useWell_h35 {o1 : Nat} {I0 : Ix} {L0 : Lx} {Q Q' : Int32 → Ix → Lx → Prop} (hQ : ∀ (r : Int32) (I1 : Ix) (L1 : Lx), FrI (wsI_X9_useWell o1) (fsI_X9_useWell o1) I0 I1 → FrL (wsL_X9_useWell o1) (fsL_X9_useWell o1) L0 L1 → Q r I1 L1 → Q' r I1 L1) {v2 : Int32} {v3 : Int32} {v4 : Int32} {v5 : Int32} {v6 : Int32} {I : Ix} {L : Lx} (hF : FrI (wsI_X9_useWell o1) (fsI_X9_useWell o1) I0 I) (hL : FrL (wsL_X9_useWell o1) (fsL_X9_useWell o1) L0 L) (h : wpX9_useWell_h35 o1 Q v2 v3 v4 v5 v6 I L) : wpX9_useWell_h35 o1 Q' v2 v3 v4 v5 v6 I L := by
  unfold wpX9_useWell_h35 at h
  refine Lfp.ind (P := fun z => FrI (wsI_X9_useWell o1) (fsI_X9_useWell o1) I0 z.2.2.2.2.2.1 → FrL (wsL_X9_useWell o1) (fsL_X9_useWell o1) L0 z.2.2.2.2.2.2 → wpX9_useWell_h35 o1 Q' z.1 z.2.1 z.2.2.1 z.2.2.2.1 z.2.2.2.2.1 z.2.2.2.2.2.1 z.2.2.2.2.2.2) ?_ h hF hL
  intro z P' hP' h hF hL
  obtain ⟨v2, v3, v4, v5, v6, I, L⟩ := z
  exact wpX9_useWell_h35_fold (mnX9_useWell_l35 hQ (fun v2 v3 v4 v5 v6 I L hF hL h9 => hP' (v2, v3, v4, v5, v6, I, L) h9 hF hL) hF hL h)
set_option maxRecDepth 10000 in
theorem mnX9_useWell_l11 {o1 : Nat} {I0 : Ix} {L0 : Lx} {Q Q' : Int32 → Ix → Lx → Prop} {P11 P11' : Int32 → Int32 → Int32 → Int32 → Int32 → Ix → Lx → Prop} (hQ : ∀ (r : Int32) (I1 : Ix) (L1 : Lx), FrI (wsI_X9_useWell o1) (fsI_X9_useWell o1) I0 I1 → FrL (wsL_X9_useWell o1) (fsL_X9_useWell o1) L0 L1 → Q r I1 L1 → Q' r I1 L1) (hP11 : ∀ (v2 : Int32) (v3 : Int32) (v4 : Int32) (v5 : Int32) (v6 : Int32) (I1 : Ix) (L1 : Lx), FrI (wsI_X9_useWell o1) (fsI_X9_useWell o1) I0 I1 → FrL (wsL_X9_useWell o1) (fsL_X9_useWell o1) L0 L1 → P11 v2 v3 v4 v5 v6 I1 L1 → P11' v2 v3 v4 v5 v6 I1 L1) {v2 : Int32} {v3 : Int32} {v4 : Int32} {v5 : Int32} {v6 : Int32} {I : Ix} {L : Lx} (hF : FrI (wsI_X9_useWell o1) (fsI_X9_useWell o1) I0 I) (hL : FrL (wsL_X9_useWell o1) (fsL_X9_useWell o1) L0 L) (h : wpX9_useWell_l11 o1 Q P11 v2 v3 v4 v5 v6 I L) : wpX9_useWell_l11 o1 Q' P11' v2 v3 v4 v5 v6 I L := by
  unfold wpX9_useWell_l11 at h ⊢
  refine ⟨fun hc => ?_, fun hc => ?_⟩
  · have h := h.1 hc
    exact mnX9_useWell_h35 hQ hF hL h
  · have h := h.2 hc
    refine ⟨h.1, ?_⟩
    have h := h.2
    intro L1 eL1
    have h := h L1 eL1
    have hL := hL.pw eL1 (by simp)
    exact hP11 _ _ _ _ _ _ _ hF hL h
set_option maxRecDepth 10000 in
theorem mnX9_useWell_h11 {o1 : Nat} {I0 : Ix} {L0 : Lx} {Q Q' : Int32 → Ix → Lx → Prop} (hQ : ∀ (r : Int32) (I1 : Ix) (L1 : Lx), FrI (wsI_X9_useWell o1) (fsI_X9_useWell o1) I0 I1 → FrL (wsL_X9_useWell o1) (fsL_X9_useWell o1) L0 L1 → Q r I1 L1 → Q' r I1 L1) {v2 : Int32} {v3 : Int32} {v4 : Int32} {v5 : Int32} {v6 : Int32} {I : Ix} {L : Lx} (hF : FrI (wsI_X9_useWell o1) (fsI_X9_useWell o1) I0 I) (hL : FrL (wsL_X9_useWell o1) (fsL_X9_useWell o1) L0 L) (h : wpX9_useWell_h11 o1 Q v2 v3 v4 v5 v6 I L) : wpX9_useWell_h11 o1 Q' v2 v3 v4 v5 v6 I L := by
  unfold wpX9_useWell_h11 at h
  refine Lfp.ind (P := fun z => FrI (wsI_X9_useWell o1) (fsI_X9_useWell o1) I0 z.2.2.2.2.2.1 → FrL (wsL_X9_useWell o1) (fsL_X9_useWell o1) L0 z.2.2.2.2.2.2 → wpX9_useWell_h11 o1 Q' z.1 z.2.1 z.2.2.1 z.2.2.2.1 z.2.2.2.2.1 z.2.2.2.2.2.1 z.2.2.2.2.2.2) ?_ h hF hL
  intro z P' hP' h hF hL
  obtain ⟨v2, v3, v4, v5, v6, I, L⟩ := z
  exact wpX9_useWell_h11_fold (mnX9_useWell_l11 hQ (fun v2 v3 v4 v5 v6 I L hF hL h9 => hP' (v2, v3, v4, v5, v6, I, L) h9 hF hL) hF hL h)
set_option maxRecDepth 10000 in
theorem mnX9_useWell {o1 : Nat} {a2 : Int32} {a3 : Int32} {a4 : Int32} {I : Ix} {L : Lx} {Q Q' : Int32 → Ix → Lx → Prop} (hQ : ∀ (r : Int32) (I1 : Ix) (L1 : Lx), FrI (wsI_X9_useWell o1) (fsI_X9_useWell o1) I I1 → FrL (wsL_X9_useWell o1) (fsL_X9_useWell o1) L L1 → Q r I1 L1 → Q' r I1 L1) (h : wpX9_useWell o1 a2 a3 a4 I L Q) : wpX9_useWell o1 a2 a3 a4 I L Q' := by
  have hF : FrI (wsI_X9_useWell o1) (fsI_X9_useWell o1) I I := FrI.rf
  have hL : FrL (wsL_X9_useWell o1) (fsL_X9_useWell o1) L L := FrL.rf
  unfold wpX9_useWell at h ⊢
  refine ⟨h.1, ?_⟩
  have h := h.2
  exact mnX9_useWell_h11 hQ hF hL h
abbrev wsI_X11_used : List Nat := []
abbrev wsL_X11_used : List Nat := [79]
abbrev fsI_X11_used : List (Nat × Nat) := [(69, 6)]
abbrev fsL_X11_used : List (Nat × Nat) := []
set_option maxRecDepth 10000 in
theorem mnX11_used {a1 : Int32} {a2 : Int32} {a3 : Int32} {a4 : Int32} {I : Ix} {L : Lx} {Q Q' : Int32 → Ix → Lx → Prop} (hQ : ∀ (r : Int32) (I1 : Ix) (L1 : Lx), FrI (wsI_X11_used) (fsI_X11_used) I I1 → FrL (wsL_X11_used) (fsL_X11_used) L L1 → Q r I1 L1 → Q' r I1 L1) (h : wpX11_used a1 a2 a3 a4 I L Q) : wpX11_used a1 a2 a3 a4 I L Q' := by
  have hF : FrI (wsI_X11_used) (fsI_X11_used) I I := FrI.rf
  have hL : FrL (wsL_X11_used) (fsL_X11_used) L L := FrL.rf
  unfold wpX11_used at h ⊢
  refine mnX11_isThing (fun r3 I1 L2 hf hl h => ?_) h
  have hF := hF.tr hf (by decide) (by decide)
  have hL := hL.tr hl (by decide) (by decide)
  refine ⟨fun hc => ?_, fun hc => ?_⟩
  · have h := h.1 hc
    exact hQ _ _ _ hF hL h
  · have h := h.2 hc
    refine ⟨fun hc => ?_, fun hc => ?_⟩
    · have h := h.1 hc
      exact hQ _ _ _ hF hL h
    · have h := h.2 hc
      refine ⟨fun hc => ?_, fun hc => ?_⟩
      · have h := h.1 hc
        exact hQ _ _ _ hF hL h
      · have h := h.2 hc
        refine ⟨fun hc => ?_, fun hc => ?_⟩
        · have h := h.1 hc
          exact hQ _ _ _ hF hL h
        · have h := h.2 hc
          refine ⟨fun hc => ?_, fun hc => ?_⟩
          · have h := h.1 hc
            exact hQ _ _ _ hF hL h
          · have h := h.2 hc
            refine ⟨fun hc => ?_, fun hc => ?_⟩
            · have h := h.1 hc
              exact hQ _ _ _ hF hL h
            · have h := h.2 hc
              refine ⟨fun hc => ?_, fun hc => ?_⟩
              · have h := h.1 hc
                refine ⟨h.1, ?_⟩
                have h := h.2
                refine ⟨fun hc => ?_, fun hc => ?_⟩
                · have h := h.1 hc
                  refine mnX9_useWell (fun r6 I4 L5 hf hl h => ?_) h
                  have hF := hF.tr hf (by decide) (by decide)
                  have hL := hL.tr hl (by decide) (by decide)
                  refine ⟨fun hc => ?_, fun hc => ?_⟩
                  · have h := h.1 hc
                    exact hQ _ _ _ hF hL h
                  · have h := h.2 hc
                    exact hQ _ _ _ hF hL h
                · have h := h.2 hc
                  exact hQ _ _ _ hF hL h
              · have h := h.2 hc
                exact hQ _ _ _ hF hL h
abbrev wsI_X11_keeps : List Nat := [74, 76, 77, 78, 75, 71, 72, 73, 66, 67, 63, 14, 68, 64, 65]
abbrev wsL_X11_keeps : List Nat := []
abbrev fsI_X11_keeps : List (Nat × Nat) := [(69, 4), (69, 5), (70, 0), (70, 1), (70, 2)]
abbrev fsL_X11_keeps : List (Nat × Nat) := []
set_option maxRecDepth 10000 in
theorem mnX11_keeps_l35 {I0 : Ix} {L0 : Lx} {Q Q' : Int32 → Ix → Lx → Prop} {P35 P35' : Int32 → Int32 → Int32 → Ix → Lx → Prop} (hQ : ∀ (r : Int32) (I1 : Ix) (L1 : Lx), FrI (wsI_X11_keeps) (fsI_X11_keeps) I0 I1 → FrL (wsL_X11_keeps) (fsL_X11_keeps) L0 L1 → Q r I1 L1 → Q' r I1 L1) (hP35 : ∀ (v1 : Int32) (v2 : Int32) (v3 : Int32) (I1 : Ix) (L1 : Lx), FrI (wsI_X11_keeps) (fsI_X11_keeps) I0 I1 → FrL (wsL_X11_keeps) (fsL_X11_keeps) L0 L1 → P35 v1 v2 v3 I1 L1 → P35' v1 v2 v3 I1 L1) {v1 : Int32} {v2 : Int32} {v3 : Int32} {I : Ix} {L : Lx} (hF : FrI (wsI_X11_keeps) (fsI_X11_keeps) I0 I) (hL : FrL (wsL_X11_keeps) (fsL_X11_keeps) L0 L) (h : wpX11_keeps_l35 Q P35 v1 v2 v3 I L) : wpX11_keeps_l35 Q' P35' v1 v2 v3 I L := by
  unfold wpX11_keeps_l35 at h ⊢
  refine ⟨h.1, ?_⟩
  have h := h.2
  refine ⟨fun hc => ?_, fun hc => ?_⟩
  · have h := h.1 hc
    exact hQ _ _ _ hF hL h
  · have h := h.2 hc
    refine mnX9_weigh (fun r3 I1 L2 hf hl h => ?_) h
    have hF := hF.tr hf (by decide) (by decide)
    have hL := hL.tr hl (by decide) (by decide)
    refine ⟨fun hc => ?_, fun hc => ?_⟩
    · have h := h.1 hc
      exact hP35 _ _ _ _ _ hF hL h
    · have h := h.2 hc
      refine ⟨fun hc => ?_, fun hc => ?_⟩
      · have h := h.1 hc
        exact hP35 _ _ _ _ _ hF hL h
      · have h := h.2 hc
        exact hQ _ _ _ hF hL h
set_option maxRecDepth 10000 in
theorem mnX11_keeps_h35 {I0 : Ix} {L0 : Lx} {Q Q' : Int32 → Ix → Lx → Prop} (hQ : ∀ (r : Int32) (I1 : Ix) (L1 : Lx), FrI (wsI_X11_keeps) (fsI_X11_keeps) I0 I1 → FrL (wsL_X11_keeps) (fsL_X11_keeps) L0 L1 → Q r I1 L1 → Q' r I1 L1) {v1 : Int32} {v2 : Int32} {v3 : Int32} {I : Ix} {L : Lx} (hF : FrI (wsI_X11_keeps) (fsI_X11_keeps) I0 I) (hL : FrL (wsL_X11_keeps) (fsL_X11_keeps) L0 L) (h : wpX11_keeps_h35 Q v1 v2 v3 I L) : wpX11_keeps_h35 Q' v1 v2 v3 I L := by
  unfold wpX11_keeps_h35 at h
  refine Lfp.ind (P := fun z => FrI (wsI_X11_keeps) (fsI_X11_keeps) I0 z.2.2.2.1 → FrL (wsL_X11_keeps) (fsL_X11_keeps) L0 z.2.2.2.2 → wpX11_keeps_h35 Q' z.1 z.2.1 z.2.2.1 z.2.2.2.1 z.2.2.2.2) ?_ h hF hL
  intro z P' hP' h hF hL
  obtain ⟨v1, v2, v3, I, L⟩ := z
  exact wpX11_keeps_h35_fold (mnX11_keeps_l35 hQ (fun v1 v2 v3 I L hF hL h9 => hP' (v1, v2, v3, I, L) h9 hF hL) hF hL h)
set_option maxRecDepth 10000 in
theorem mnX11_keeps {a1 : Int32} {I : Ix} {L : Lx} {Q Q' : Int32 → Ix → Lx → Prop} (hQ : ∀ (r : Int32) (I1 : Ix) (L1 : Lx), FrI (wsI_X11_keeps) (fsI_X11_keeps) I I1 → FrL (wsL_X11_keeps) (fsL_X11_keeps) L L1 → Q r I1 L1 → Q' r I1 L1) (h : wpX11_keeps a1 I L Q) : wpX11_keeps a1 I L Q' := by
  have hF : FrI (wsI_X11_keeps) (fsI_X11_keeps) I I := FrI.rf
  have hL : FrL (wsL_X11_keeps) (fsL_X11_keeps) L L := FrL.rf
  unfold wpX11_keeps at h ⊢
  refine mnX11_isThing (fun r3 I1 L2 hf hl h => ?_) h
  have hF := hF.tr hf (by decide) (by decide)
  have hL := hL.tr hl (by decide) (by decide)
  refine ⟨fun hc => ?_, fun hc => ?_⟩
  · have h := h.1 hc
    exact hQ _ _ _ hF hL h
  · have h := h.2 hc
    refine ⟨h.1, ?_⟩
    have h := h.2
    refine ⟨fun hc => ?_, fun hc => ?_⟩
    · have h := h.1 hc
      refine ⟨h.1, ?_⟩
      have h := h.2
      exact mnX11_keeps_h35 hQ hF hL h
    · have h := h.2 hc
      exact hQ _ _ _ hF hL h
abbrev wsI_X11_lift : List Nat := []
abbrev wsL_X11_lift : List Nat := []
abbrev fsI_X11_lift : List (Nat × Nat) := []
abbrev fsL_X11_lift : List (Nat × Nat) := []
set_option maxRecDepth 10000 in
theorem mnX11_lift_l28 {I0 : Ix} {L0 : Lx} {Q Q' : Int32 → Ix → Lx → Prop} {P28 P28' : Int32 → Int32 → Int32 → Int32 → Ix → Lx → Prop} (hQ : ∀ (r : Int32) (I1 : Ix) (L1 : Lx), FrI (wsI_X11_lift) (fsI_X11_lift) I0 I1 → FrL (wsL_X11_lift) (fsL_X11_lift) L0 L1 → Q r I1 L1 → Q' r I1 L1) (hP28 : ∀ (v1 : Int32) (v2 : Int32) (v3 : Int32) (v4 : Int32) (I1 : Ix) (L1 : Lx), FrI (wsI_X11_lift) (fsI_X11_lift) I0 I1 → FrL (wsL_X11_lift) (fsL_X11_lift) L0 L1 → P28 v1 v2 v3 v4 I1 L1 → P28' v1 v2 v3 v4 I1 L1) {v1 : Int32} {v2 : Int32} {v3 : Int32} {v4 : Int32} {I : Ix} {L : Lx} (hF : FrI (wsI_X11_lift) (fsI_X11_lift) I0 I) (hL : FrL (wsL_X11_lift) (fsL_X11_lift) L0 L) (h : wpX11_lift_l28 Q P28 v1 v2 v3 v4 I L) : wpX11_lift_l28 Q' P28' v1 v2 v3 v4 I L := by
  unfold wpX11_lift_l28 at h ⊢
  refine ⟨fun hc => ?_, fun hc => ?_⟩
  · have h := h.1 hc
    exact hQ _ _ _ hF hL h
  · have h := h.2 hc
    refine ⟨h.1, ?_⟩
    have h := h.2
    refine ⟨h.1, ?_⟩
    have h := h.2
    refine ⟨fun hc => ?_, fun hc => ?_⟩
    · have h := h.1 hc
      exact hP28 _ _ _ _ _ _ hF hL h
    · have h := h.2 hc
      refine ⟨h.1, ?_⟩
      have h := h.2
      refine ⟨fun hc => ?_, fun hc => ?_⟩
      · have h := h.1 hc
        exact hP28 _ _ _ _ _ _ hF hL h
      · have h := h.2 hc
        refine ⟨h.1, ?_⟩
        have h := h.2
        refine ⟨h.1, ?_⟩
        have h := h.2
        refine ⟨fun hc => ?_, fun hc => ?_⟩
        · have h := h.1 hc
          exact hP28 _ _ _ _ _ _ hF hL h
        · have h := h.2 hc
          exact hP28 _ _ _ _ _ _ hF hL h
set_option maxRecDepth 10000 in
theorem mnX11_lift_h28 {I0 : Ix} {L0 : Lx} {Q Q' : Int32 → Ix → Lx → Prop} (hQ : ∀ (r : Int32) (I1 : Ix) (L1 : Lx), FrI (wsI_X11_lift) (fsI_X11_lift) I0 I1 → FrL (wsL_X11_lift) (fsL_X11_lift) L0 L1 → Q r I1 L1 → Q' r I1 L1) {v1 : Int32} {v2 : Int32} {v3 : Int32} {v4 : Int32} {I : Ix} {L : Lx} (hF : FrI (wsI_X11_lift) (fsI_X11_lift) I0 I) (hL : FrL (wsL_X11_lift) (fsL_X11_lift) L0 L) (h : wpX11_lift_h28 Q v1 v2 v3 v4 I L) : wpX11_lift_h28 Q' v1 v2 v3 v4 I L := by
  unfold wpX11_lift_h28 at h
  refine Lfp.ind (P := fun z => FrI (wsI_X11_lift) (fsI_X11_lift) I0 z.2.2.2.2.1 → FrL (wsL_X11_lift) (fsL_X11_lift) L0 z.2.2.2.2.2 → wpX11_lift_h28 Q' z.1 z.2.1 z.2.2.1 z.2.2.2.1 z.2.2.2.2.1 z.2.2.2.2.2) ?_ h hF hL
  intro z P' hP' h hF hL
  obtain ⟨v1, v2, v3, v4, I, L⟩ := z
  exact wpX11_lift_h28_fold (mnX11_lift_l28 hQ (fun v1 v2 v3 v4 I L hF hL h9 => hP' (v1, v2, v3, v4, I, L) h9 hF hL) hF hL h)
set_option maxRecDepth 10000 in
theorem mnX11_lift {a1 : Int32} {a2 : Int32} {I : Ix} {L : Lx} {Q Q' : Int32 → Ix → Lx → Prop} (hQ : ∀ (r : Int32) (I1 : Ix) (L1 : Lx), FrI (wsI_X11_lift) (fsI_X11_lift) I I1 → FrL (wsL_X11_lift) (fsL_X11_lift) L L1 → Q r I1 L1 → Q' r I1 L1) (h : wpX11_lift a1 a2 I L Q) : wpX11_lift a1 a2 I L Q' := by
  have hF : FrI (wsI_X11_lift) (fsI_X11_lift) I I := FrI.rf
  have hL : FrL (wsL_X11_lift) (fsL_X11_lift) L L := FrL.rf
  unfold wpX11_lift at h ⊢
  refine mnX11_isPerson (fun r3 I1 L2 hf hl h => ?_) h
  have hF := hF.tr hf (by decide) (by decide)
  have hL := hL.tr hl (by decide) (by decide)
  refine ⟨fun hc => ?_, fun hc => ?_⟩
  · have h := h.1 hc
    exact hQ _ _ _ hF hL h
  · have h := h.2 hc
    refine mnX11_isPerson (fun r6 I4 L5 hf hl h => ?_) h
    have hF := hF.tr hf (by decide) (by decide)
    have hL := hL.tr hl (by decide) (by decide)
    refine ⟨fun hc => ?_, fun hc => ?_⟩
    · have h := h.1 hc
      exact hQ _ _ _ hF hL h
    · have h := h.2 hc
      refine ⟨fun hc => ?_, fun hc => ?_⟩
      · have h := h.1 hc
        exact mnX11_lift_h28 hQ hF hL h
      · have h := h.2 hc
        exact hQ _ _ _ hF hL h
abbrev wsI_X1_mostNoons_4 : List Nat := [9]
abbrev wsL_X1_mostNoons_4 : List Nat := []
abbrev fsI_X1_mostNoons_4 : List (Nat × Nat) := []
abbrev fsL_X1_mostNoons_4 : List (Nat × Nat) := []
set_option maxRecDepth 10000 in
theorem mnX1_mostNoons_4_b121 {I0 : Ix} {L0 : Lx} {Q Q' : Int32 → Ix → Lx → Prop} {P5 P5' : Int32 → Int32 → Int32 → Int32 → Ix → Lx → Prop} {P74 P74' : Int32 → Int32 → Int32 → Int32 → Int32 → Int32 → Ix → Lx → Prop} (hQ : ∀ (r : Int32) (I1 : Ix) (L1 : Lx), FrI (wsI_X1_mostNoons_4) (fsI_X1_mostNoons_4) I0 I1 → FrL (wsL_X1_mostNoons_4) (fsL_X1_mostNoons_4) L0 L1 → Q r I1 L1 → Q' r I1 L1) (hP5 : ∀ (v1 : Int32) (v2 : Int32) (v3 : Int32) (v4 : Int32) (I1 : Ix) (L1 : Lx), FrI (wsI_X1_mostNoons_4) (fsI_X1_mostNoons_4) I0 I1 → FrL (wsL_X1_mostNoons_4) (fsL_X1_mostNoons_4) L0 L1 → P5 v1 v2 v3 v4 I1 L1 → P5' v1 v2 v3 v4 I1 L1) (hP74 : ∀ (v1 : Int32) (v2 : Int32) (v3 : Int32) (v4 : Int32) (v5 : Int32) (v6 : Int32) (I1 : Ix) (L1 : Lx), FrI (wsI_X1_mostNoons_4) (fsI_X1_mostNoons_4) I0 I1 → FrL (wsL_X1_mostNoons_4) (fsL_X1_mostNoons_4) L0 L1 → P74 v1 v2 v3 v4 v5 v6 I1 L1 → P74' v1 v2 v3 v4 v5 v6 I1 L1) {v1 : Int32} {v2 : Int32} {v3 : Int32} {v4 : Int32} {v5 : Int32} {v6 : Int32} {t0 : Int32} {I : Ix} {L : Lx} (hF : FrI (wsI_X1_mostNoons_4) (fsI_X1_mostNoons_4) I0 I) (hL : FrL (wsL_X1_mostNoons_4) (fsL_X1_mostNoons_4) L0 L) (h : wpX1_mostNoons_4_b121 Q P5 P74 v1 v2 v3 v4 v5 v6 t0 I L) : wpX1_mostNoons_4_b121 Q' P5' P74' v1 v2 v3 v4 v5 v6 t0 I L := by
  unfold wpX1_mostNoons_4_b121 at h ⊢
  refine ⟨h.1, ?_⟩
  have h := h.2
  refine ⟨fun hc => ?_, fun hc => ?_⟩
  · have h := h.1 hc
    exact hP74 _ _ _ _ _ _ _ _ hF hL h
  · have h := h.2 hc
    refine ⟨fun hc => ?_, fun hc => ?_⟩
    · have h := h.1 hc
      exact hP74 _ _ _ _ _ _ _ _ hF hL h
    · have h := h.2 hc
      refine ⟨h.1, ?_⟩
      have h := h.2
      refine ⟨h.1, ?_⟩
      have h := h.2
      refine ⟨h.1, ?_⟩
      have h := h.2
      intro I1 eI1
      have h := h I1 eI1
      have hF := hF.pw eI1 (by decide)
      exact hP74 _ _ _ _ _ _ _ _ hF hL h
set_option maxRecDepth 10000 in
theorem mnX1_mostNoons_4_l74 {I0 : Ix} {L0 : Lx} {Q Q' : Int32 → Ix → Lx → Prop} {P5 P5' : Int32 → Int32 → Int32 → Int32 → Ix → Lx → Prop} {P74 P74' : Int32 → Int32 → Int32 → Int32 → Int32 → Int32 → Ix → Lx → Prop} (hQ : ∀ (r : Int32) (I1 : Ix) (L1 : Lx), FrI (wsI_X1_mostNoons_4) (fsI_X1_mostNoons_4) I0 I1 → FrL (wsL_X1_mostNoons_4) (fsL_X1_mostNoons_4) L0 L1 → Q r I1 L1 → Q' r I1 L1) (hP5 : ∀ (v1 : Int32) (v2 : Int32) (v3 : Int32) (v4 : Int32) (I1 : Ix) (L1 : Lx), FrI (wsI_X1_mostNoons_4) (fsI_X1_mostNoons_4) I0 I1 → FrL (wsL_X1_mostNoons_4) (fsL_X1_mostNoons_4) L0 L1 → P5 v1 v2 v3 v4 I1 L1 → P5' v1 v2 v3 v4 I1 L1) (hP74 : ∀ (v1 : Int32) (v2 : Int32) (v3 : Int32) (v4 : Int32) (v5 : Int32) (v6 : Int32) (I1 : Ix) (L1 : Lx), FrI (wsI_X1_mostNoons_4) (fsI_X1_mostNoons_4) I0 I1 → FrL (wsL_X1_mostNoons_4) (fsL_X1_mostNoons_4) L0 L1 → P74 v1 v2 v3 v4 v5 v6 I1 L1 → P74' v1 v2 v3 v4 v5 v6 I1 L1) {v1 : Int32} {v2 : Int32} {v3 : Int32} {v4 : Int32} {v5 : Int32} {v6 : Int32} {I : Ix} {L : Lx} (hF : FrI (wsI_X1_mostNoons_4) (fsI_X1_mostNoons_4) I0 I) (hL : FrL (wsL_X1_mostNoons_4) (fsL_X1_mostNoons_4) L0 L) (h : wpX1_mostNoons_4_l74 Q P5 P74 v1 v2 v3 v4 v5 v6 I L) : wpX1_mostNoons_4_l74 Q' P5' P74' v1 v2 v3 v4 v5 v6 I L := by
  unfold wpX1_mostNoons_4_l74 at h ⊢
  refine ⟨fun hc => ?_, fun hc => ?_⟩
  · have h := h.1 hc
    refine ⟨h.1, ?_⟩
    have h := h.2
    exact hP5 _ _ _ _ _ _ hF hL h
  · have h := h.2 hc
    refine ⟨h.1, ?_⟩
    have h := h.2
    refine mnX1_minutes_4 (fun r3 I1 L2 hf hl h => ?_) h
    have hF := hF.tr hf (by decide) (by decide)
    have hL := hL.tr hl (by decide) (by decide)
    refine ⟨h.1, ?_⟩
    have h := h.2
    refine ⟨h.1, ?_⟩
    have h := h.2
    refine ⟨fun hc => ?_, fun hc => ?_⟩
    · have h := h.1 hc
      exact mnX1_mostNoons_4_b121 hQ hP5 hP74 hF hL h
    · have h := h.2 hc
      exact mnX1_mostNoons_4_b121 hQ hP5 hP74 hF hL h
set_option maxRecDepth 10000 in
theorem mnX1_mostNoons_4_h74 {I0 : Ix} {L0 : Lx} {Q Q' : Int32 → Ix → Lx → Prop} {P5 P5' : Int32 → Int32 → Int32 → Int32 → Ix → Lx → Prop} (hQ : ∀ (r : Int32) (I1 : Ix) (L1 : Lx), FrI (wsI_X1_mostNoons_4) (fsI_X1_mostNoons_4) I0 I1 → FrL (wsL_X1_mostNoons_4) (fsL_X1_mostNoons_4) L0 L1 → Q r I1 L1 → Q' r I1 L1) (hP5 : ∀ (v1 : Int32) (v2 : Int32) (v3 : Int32) (v4 : Int32) (I1 : Ix) (L1 : Lx), FrI (wsI_X1_mostNoons_4) (fsI_X1_mostNoons_4) I0 I1 → FrL (wsL_X1_mostNoons_4) (fsL_X1_mostNoons_4) L0 L1 → P5 v1 v2 v3 v4 I1 L1 → P5' v1 v2 v3 v4 I1 L1) {v1 : Int32} {v2 : Int32} {v3 : Int32} {v4 : Int32} {v5 : Int32} {v6 : Int32} {I : Ix} {L : Lx} (hF : FrI (wsI_X1_mostNoons_4) (fsI_X1_mostNoons_4) I0 I) (hL : FrL (wsL_X1_mostNoons_4) (fsL_X1_mostNoons_4) L0 L) (h : wpX1_mostNoons_4_h74 Q P5 v1 v2 v3 v4 v5 v6 I L) : wpX1_mostNoons_4_h74 Q' P5' v1 v2 v3 v4 v5 v6 I L := by
  unfold wpX1_mostNoons_4_h74 at h
  refine Lfp.ind (P := fun z => FrI (wsI_X1_mostNoons_4) (fsI_X1_mostNoons_4) I0 z.2.2.2.2.2.2.1 → FrL (wsL_X1_mostNoons_4) (fsL_X1_mostNoons_4) L0 z.2.2.2.2.2.2.2 → wpX1_mostNoons_4_h74 Q' P5' z.1 z.2.1 z.2.2.1 z.2.2.2.1 z.2.2.2.2.1 z.2.2.2.2.2.1 z.2.2.2.2.2.2.1 z.2.2.2.2.2.2.2) ?_ h hF hL
  intro z P' hP' h hF hL
  obtain ⟨v1, v2, v3, v4, v5, v6, I, L⟩ := z
  exact wpX1_mostNoons_4_h74_fold (mnX1_mostNoons_4_l74 hQ hP5 (fun v1 v2 v3 v4 v5 v6 I L hF hL h9 => hP' (v1, v2, v3, v4, v5, v6, I, L) h9 hF hL) hF hL h)
set_option maxRecDepth 10000 in
theorem mnX1_mostNoons_4_l5 {I0 : Ix} {L0 : Lx} {Q Q' : Int32 → Ix → Lx → Prop} {P5 P5' : Int32 → Int32 → Int32 → Int32 → Ix → Lx → Prop} (hQ : ∀ (r : Int32) (I1 : Ix) (L1 : Lx), FrI (wsI_X1_mostNoons_4) (fsI_X1_mostNoons_4) I0 I1 → FrL (wsL_X1_mostNoons_4) (fsL_X1_mostNoons_4) L0 L1 → Q r I1 L1 → Q' r I1 L1) (hP5 : ∀ (v1 : Int32) (v2 : Int32) (v3 : Int32) (v4 : Int32) (I1 : Ix) (L1 : Lx), FrI (wsI_X1_mostNoons_4) (fsI_X1_mostNoons_4) I0 I1 → FrL (wsL_X1_mostNoons_4) (fsL_X1_mostNoons_4) L0 L1 → P5 v1 v2 v3 v4 I1 L1 → P5' v1 v2 v3 v4 I1 L1) {v1 : Int32} {v2 : Int32} {v3 : Int32} {v4 : Int32} {I : Ix} {L : Lx} (hF : FrI (wsI_X1_mostNoons_4) (fsI_X1_mostNoons_4) I0 I) (hL : FrL (wsL_X1_mostNoons_4) (fsL_X1_mostNoons_4) L0 L) (h : wpX1_mostNoons_4_l5 Q P5 v1 v2 v3 v4 I L) : wpX1_mostNoons_4_l5 Q' P5' v1 v2 v3 v4 I L := by
  unfold wpX1_mostNoons_4_l5 at h ⊢
  refine ⟨fun hc => ?_, fun hc => ?_⟩
  · have h := h.1 hc
    exact hQ _ _ _ hF hL h
  · have h := h.2 hc
    refine ⟨h.1, ?_⟩
    have h := h.2
    refine ⟨h.1, ?_⟩
    have h := h.2
    intro I1 eI1
    have h := h I1 eI1
    have hF := hF.pw eI1 (by decide)
    refine ⟨fun hc => ?_, fun hc => ?_⟩
    · have h := h.1 hc
      refine mnX1_minutes_4 (fun r4 I2 L3 hf hl h => ?_) h
      have hF := hF.tr hf (by decide) (by decide)
      have hL := hL.tr hl (by decide) (by decide)
      refine ⟨h.1, ?_⟩
      have h := h.2
      refine ⟨fun hc => ?_, fun hc => ?_⟩
      · have h := h.1 hc
        exact mnX1_mostNoons_4_h74 hQ hP5 hF hL h
      · have h := h.2 hc
        refine ⟨h.1, ?_⟩
        have h := h.2
        intro I5 eI5
        have h := h I5 eI5
        have hF := hF.pw eI5 (by decide)
        exact mnX1_mostNoons_4_h74 hQ hP5 hF hL h
    · have h := h.2 hc
      exact hP5 _ _ _ _ _ _ hF hL h
set_option maxRecDepth 10000 in
theorem mnX1_mostNoons_4_h5 {I0 : Ix} {L0 : Lx} {Q Q' : Int32 → Ix → Lx → Prop} (hQ : ∀ (r : Int32) (I1 : Ix) (L1 : Lx), FrI (wsI_X1_mostNoons_4) (fsI_X1_mostNoons_4) I0 I1 → FrL (wsL_X1_mostNoons_4) (fsL_X1_mostNoons_4) L0 L1 → Q r I1 L1 → Q' r I1 L1) {v1 : Int32} {v2 : Int32} {v3 : Int32} {v4 : Int32} {I : Ix} {L : Lx} (hF : FrI (wsI_X1_mostNoons_4) (fsI_X1_mostNoons_4) I0 I) (hL : FrL (wsL_X1_mostNoons_4) (fsL_X1_mostNoons_4) L0 L) (h : wpX1_mostNoons_4_h5 Q v1 v2 v3 v4 I L) : wpX1_mostNoons_4_h5 Q' v1 v2 v3 v4 I L := by
  unfold wpX1_mostNoons_4_h5 at h
  refine Lfp.ind (P := fun z => FrI (wsI_X1_mostNoons_4) (fsI_X1_mostNoons_4) I0 z.2.2.2.2.1 → FrL (wsL_X1_mostNoons_4) (fsL_X1_mostNoons_4) L0 z.2.2.2.2.2 → wpX1_mostNoons_4_h5 Q' z.1 z.2.1 z.2.2.1 z.2.2.2.1 z.2.2.2.2.1 z.2.2.2.2.2) ?_ h hF hL
  intro z P' hP' h hF hL
  obtain ⟨v1, v2, v3, v4, I, L⟩ := z
  exact wpX1_mostNoons_4_h5_fold (mnX1_mostNoons_4_l5 hQ (fun v1 v2 v3 v4 I L hF hL h9 => hP' (v1, v2, v3, v4, I, L) h9 hF hL) hF hL h)
set_option maxRecDepth 10000 in
theorem mnX1_mostNoons_4 {a1 : Int32} {a2 : Int32} {I : Ix} {L : Lx} {Q Q' : Int32 → Ix → Lx → Prop} (hQ : ∀ (r : Int32) (I1 : Ix) (L1 : Lx), FrI (wsI_X1_mostNoons_4) (fsI_X1_mostNoons_4) I I1 → FrL (wsL_X1_mostNoons_4) (fsL_X1_mostNoons_4) L L1 → Q r I1 L1 → Q' r I1 L1) (h : wpX1_mostNoons_4 a1 a2 I L Q) : wpX1_mostNoons_4 a1 a2 I L Q' := by
  have hF : FrI (wsI_X1_mostNoons_4) (fsI_X1_mostNoons_4) I I := FrI.rf
  have hL : FrL (wsL_X1_mostNoons_4) (fsL_X1_mostNoons_4) L L := FrL.rf
  unfold wpX1_mostNoons_4 at h ⊢
  exact mnX1_mostNoons_4_h5 hQ hF hL h
abbrev wsI_X11_tour : List Nat := [9]
abbrev wsL_X11_tour : List Nat := []
abbrev fsI_X11_tour : List (Nat × Nat) := []
abbrev fsL_X11_tour : List (Nat × Nat) := []
set_option maxRecDepth 10000 in
theorem mnX11_tour_l14 {I0 : Ix} {L0 : Lx} {Q Q' : Int32 → Ix → Lx → Prop} {P14 P14' : Int32 → Int32 → Int32 → Ix → Lx → Prop} (hQ : ∀ (r : Int32) (I1 : Ix) (L1 : Lx), FrI (wsI_X11_tour) (fsI_X11_tour) I0 I1 → FrL (wsL_X11_tour) (fsL_X11_tour) L0 L1 → Q r I1 L1 → Q' r I1 L1) (hP14 : ∀ (v1 : Int32) (v2 : Int32) (v3 : Int32) (I1 : Ix) (L1 : Lx), FrI (wsI_X11_tour) (fsI_X11_tour) I0 I1 → FrL (wsL_X11_tour) (fsL_X11_tour) L0 L1 → P14 v1 v2 v3 I1 L1 → P14' v1 v2 v3 I1 L1) {v1 : Int32} {v2 : Int32} {v3 : Int32} {I : Ix} {L : Lx} (hF : FrI (wsI_X11_tour) (fsI_X11_tour) I0 I) (hL : FrL (wsL_X11_tour) (fsL_X11_tour) L0 L) (h : wpX11_tour_l14 Q P14 v1 v2 v3 I L) : wpX11_tour_l14 Q' P14' v1 v2 v3 I L := by
  unfold wpX11_tour_l14 at h ⊢
  refine ⟨fun hc => ?_, fun hc => ?_⟩
  · have h := h.1 hc
    refine ⟨h.1, ?_⟩
    have h := h.2
    refine mnX1_mostNoons_4 (fun r3 I1 L2 hf hl h => ?_) h
    have hF := hF.tr hf (by decide) (by decide)
    have hL := hL.tr hl (by decide) (by decide)
    exact hQ _ _ _ hF hL h
  · have h := h.2 hc
    refine ⟨h.1, ?_⟩
    have h := h.2
    refine ⟨fun hc => ?_, fun hc => ?_⟩
    · have h := h.1 hc
      exact hP14 _ _ _ _ _ hF hL h
    · have h := h.2 hc
      refine ⟨h.1, ?_⟩
      have h := h.2
      exact hP14 _ _ _ _ _ hF hL h
set_option maxRecDepth 10000 in
theorem mnX11_tour_h14 {I0 : Ix} {L0 : Lx} {Q Q' : Int32 → Ix → Lx → Prop} (hQ : ∀ (r : Int32) (I1 : Ix) (L1 : Lx), FrI (wsI_X11_tour) (fsI_X11_tour) I0 I1 → FrL (wsL_X11_tour) (fsL_X11_tour) L0 L1 → Q r I1 L1 → Q' r I1 L1) {v1 : Int32} {v2 : Int32} {v3 : Int32} {I : Ix} {L : Lx} (hF : FrI (wsI_X11_tour) (fsI_X11_tour) I0 I) (hL : FrL (wsL_X11_tour) (fsL_X11_tour) L0 L) (h : wpX11_tour_h14 Q v1 v2 v3 I L) : wpX11_tour_h14 Q' v1 v2 v3 I L := by
  unfold wpX11_tour_h14 at h
  refine Lfp.ind (P := fun z => FrI (wsI_X11_tour) (fsI_X11_tour) I0 z.2.2.2.1 → FrL (wsL_X11_tour) (fsL_X11_tour) L0 z.2.2.2.2 → wpX11_tour_h14 Q' z.1 z.2.1 z.2.2.1 z.2.2.2.1 z.2.2.2.2) ?_ h hF hL
  intro z P' hP' h hF hL
  obtain ⟨v1, v2, v3, I, L⟩ := z
  exact wpX11_tour_h14_fold (mnX11_tour_l14 hQ (fun v1 v2 v3 I L hF hL h9 => hP' (v1, v2, v3, I, L) h9 hF hL) hF hL h)
set_option maxRecDepth 10000 in
theorem mnX11_tour {a1 : Int32} {I : Ix} {L : Lx} {Q Q' : Int32 → Ix → Lx → Prop} (hQ : ∀ (r : Int32) (I1 : Ix) (L1 : Lx), FrI (wsI_X11_tour) (fsI_X11_tour) I I1 → FrL (wsL_X11_tour) (fsL_X11_tour) L L1 → Q r I1 L1 → Q' r I1 L1) (h : wpX11_tour a1 I L Q) : wpX11_tour a1 I L Q' := by
  have hF : FrI (wsI_X11_tour) (fsI_X11_tour) I I := FrI.rf
  have hL : FrL (wsL_X11_tour) (fsL_X11_tour) L L := FrL.rf
  unfold wpX11_tour at h ⊢
  refine mnX11_isPerson (fun r3 I1 L2 hf hl h => ?_) h
  have hF := hF.tr hf (by decide) (by decide)
  have hL := hL.tr hl (by decide) (by decide)
  refine ⟨fun hc => ?_, fun hc => ?_⟩
  · have h := h.1 hc
    exact mnX11_tour_h14 hQ hF hL h
  · have h := h.2 hc
    exact hQ _ _ _ hF hL h
abbrev wsI_X2_ownerBehind (o0 : Nat) : List Nat := []
abbrev wsL_X2_ownerBehind (o0 : Nat) : List Nat := []
abbrev fsI_X2_ownerBehind (o0 : Nat) : List (Nat × Nat) := []
abbrev fsL_X2_ownerBehind (o0 : Nat) : List (Nat × Nat) := []
set_option maxRecDepth 10000 in
theorem mnX2_ownerBehind {o0 : Nat} {a1 : Int32} {a2 : Int32} {I : Ix} {L : Lx} {Q Q' : Int32 → Ix → Lx → Prop} (hQ : ∀ (r : Int32) (I1 : Ix) (L1 : Lx), FrI (wsI_X2_ownerBehind o0) (fsI_X2_ownerBehind o0) I I1 → FrL (wsL_X2_ownerBehind o0) (fsL_X2_ownerBehind o0) L L1 → Q r I1 L1 → Q' r I1 L1) (h : wpX2_ownerBehind o0 a1 a2 I L Q) : wpX2_ownerBehind o0 a1 a2 I L Q' := by
  have hF : FrI (wsI_X2_ownerBehind o0) (fsI_X2_ownerBehind o0) I I := FrI.rf
  have hL : FrL (wsL_X2_ownerBehind o0) (fsL_X2_ownerBehind o0) L L := FrL.rf
  unfold wpX2_ownerBehind at h ⊢
  refine ⟨fun hc => ?_, fun hc => ?_⟩
  · have h := h.1 hc
    exact hQ _ _ _ hF hL h
  · have h := h.2 hc
    refine ⟨fun hc => ?_, fun hc => ?_⟩
    · have h := h.1 hc
      exact hQ _ _ _ hF hL h
    · have h := h.2 hc
      refine ⟨h.1, ?_⟩
      have h := h.2
      exact hQ _ _ _ hF hL h
abbrev wsI_X11_since : List Nat := []
abbrev wsL_X11_since : List Nat := []
abbrev fsI_X11_since : List (Nat × Nat) := []
abbrev fsL_X11_since : List (Nat × Nat) := []
set_option maxRecDepth 10000 in
theorem mnX11_since_l56 {I0 : Ix} {L0 : Lx} {Q Q' : Int32 → Ix → Lx → Prop} {P56 P56' : Int32 → Int32 → Int32 → Ix → Lx → Prop} (hQ : ∀ (r : Int32) (I1 : Ix) (L1 : Lx), FrI (wsI_X11_since) (fsI_X11_since) I0 I1 → FrL (wsL_X11_since) (fsL_X11_since) L0 L1 → Q r I1 L1 → Q' r I1 L1) (hP56 : ∀ (v1 : Int32) (v2 : Int32) (v3 : Int32) (I1 : Ix) (L1 : Lx), FrI (wsI_X11_since) (fsI_X11_since) I0 I1 → FrL (wsL_X11_since) (fsL_X11_since) L0 L1 → P56 v1 v2 v3 I1 L1 → P56' v1 v2 v3 I1 L1) {v1 : Int32} {v2 : Int32} {v3 : Int32} {I : Ix} {L : Lx} (hF : FrI (wsI_X11_since) (fsI_X11_since) I0 I) (hL : FrL (wsL_X11_since) (fsL_X11_since) L0 L) (h : wpX11_since_l56 Q P56 v1 v2 v3 I L) : wpX11_since_l56 Q' P56' v1 v2 v3 I L := by
  unfold wpX11_since_l56 at h ⊢
  refine ⟨fun hc => ?_, fun hc => ?_⟩
  · have h := h.1 hc
    exact hQ _ _ _ hF hL h
  · have h := h.2 hc
    refine mnX2_ownerBehind (fun r3 I1 L2 hf hl h => ?_) h
    have hF := hF.tr hf (by decide) (by decide)
    have hL := hL.tr hl (by decide) (by decide)
    refine ⟨h.1, ?_⟩
    have h := h.2
    refine ⟨fun hc => ?_, fun hc => ?_⟩
    · have h := h.1 hc
      exact hQ _ _ _ hF hL h
    · have h := h.2 hc
      exact hP56 _ _ _ _ _ hF hL h
set_option maxRecDepth 10000 in
theorem mnX11_since_h56 {I0 : Ix} {L0 : Lx} {Q Q' : Int32 → Ix → Lx → Prop} (hQ : ∀ (r : Int32) (I1 : Ix) (L1 : Lx), FrI (wsI_X11_since) (fsI_X11_since) I0 I1 → FrL (wsL_X11_since) (fsL_X11_since) L0 L1 → Q r I1 L1 → Q' r I1 L1) {v1 : Int32} {v2 : Int32} {v3 : Int32} {I : Ix} {L : Lx} (hF : FrI (wsI_X11_since) (fsI_X11_since) I0 I) (hL : FrL (wsL_X11_since) (fsL_X11_since) L0 L) (h : wpX11_since_h56 Q v1 v2 v3 I L) : wpX11_since_h56 Q' v1 v2 v3 I L := by
  unfold wpX11_since_h56 at h
  refine Lfp.ind (P := fun z => FrI (wsI_X11_since) (fsI_X11_since) I0 z.2.2.2.1 → FrL (wsL_X11_since) (fsL_X11_since) L0 z.2.2.2.2 → wpX11_since_h56 Q' z.1 z.2.1 z.2.2.1 z.2.2.2.1 z.2.2.2.2) ?_ h hF hL
  intro z P' hP' h hF hL
  obtain ⟨v1, v2, v3, I, L⟩ := z
  exact wpX11_since_h56_fold (mnX11_since_l56 hQ (fun v1 v2 v3 I L hF hL h9 => hP' (v1, v2, v3, I, L) h9 hF hL) hF hL h)
set_option maxRecDepth 10000 in
theorem mnX11_since {a1 : Int32} {I : Ix} {L : Lx} {Q Q' : Int32 → Ix → Lx → Prop} (hQ : ∀ (r : Int32) (I1 : Ix) (L1 : Lx), FrI (wsI_X11_since) (fsI_X11_since) I I1 → FrL (wsL_X11_since) (fsL_X11_since) L L1 → Q r I1 L1 → Q' r I1 L1) (h : wpX11_since a1 I L Q) : wpX11_since a1 I L Q' := by
  have hF : FrI (wsI_X11_since) (fsI_X11_since) I I := FrI.rf
  have hL : FrL (wsL_X11_since) (fsL_X11_since) L L := FrL.rf
  unfold wpX11_since at h ⊢
  refine mnX11_isThing (fun r3 I1 L2 hf hl h => ?_) h
  have hF := hF.tr hf (by decide) (by decide)
  have hL := hL.tr hl (by decide) (by decide)
  refine ⟨fun hc => ?_, fun hc => ?_⟩
  · have h := h.1 hc
    exact hQ _ _ _ hF hL h
  · have h := h.2 hc
    refine ⟨h.1, ?_⟩
    have h := h.2
    refine ⟨fun hc => ?_, fun hc => ?_⟩
    · have h := h.1 hc
      exact hQ _ _ _ hF hL h
    · have h := h.2 hc
      refine ⟨fun hc => ?_, fun hc => ?_⟩
      · have h := h.1 hc
        exact hQ _ _ _ hF hL h
      · have h := h.2 hc
        refine ⟨fun hc => ?_, fun hc => ?_⟩
        · have h := h.1 hc
          exact mnX11_since_h56 hQ hF hL h
        · have h := h.2 hc
          exact hQ _ _ _ hF hL h
abbrev wsI_X6_add : List Nat := [86, 87, 88, 89, 90]
abbrev wsL_X6_add : List Nat := []
abbrev fsI_X6_add : List (Nat × Nat) := [(85, 0)]
abbrev fsL_X6_add : List (Nat × Nat) := []
set_option maxRecDepth 10000 in
theorem mnX6_add {a1 : Int32} {a2 : Int32} {a3 : Int32} {a4 : Int32} {I : Ix} {L : Lx} {Q Q' : Int32 → Ix → Lx → Prop} (hQ : ∀ (r : Int32) (I1 : Ix) (L1 : Lx), FrI (wsI_X6_add) (fsI_X6_add) I I1 → FrL (wsL_X6_add) (fsL_X6_add) L L1 → Q r I1 L1 → Q' r I1 L1) (h : wpX6_add a1 a2 a3 a4 I L Q) : wpX6_add a1 a2 a3 a4 I L Q' := by
  have hF : FrI (wsI_X6_add) (fsI_X6_add) I I := FrI.rf
  have hL : FrL (wsL_X6_add) (fsL_X6_add) L L := FrL.rf
  unfold wpX6_add at h ⊢
  refine ⟨fun hc => ?_, fun hc => ?_⟩
  · have h := h.1 hc
    refine ⟨h.1, ?_⟩
    have h := h.2
    intro I1 eI1
    have h := h I1 eI1
    have hF := hF.pw eI1 (by decide)
    refine ⟨h.1, ?_⟩
    have h := h.2
    intro I2 eI2
    have h := h I2 eI2
    have hF := hF.pw eI2 (by decide)
    refine ⟨h.1, ?_⟩
    have h := h.2
    intro I3 eI3
    have h := h I3 eI3
    have hF := hF.pw eI3 (by decide)
    refine ⟨h.1, ?_⟩
    have h := h.2
    intro I4 eI4
    have h := h I4 eI4
    have hF := hF.pw eI4 (by decide)
    refine ⟨h.1, ?_⟩
    have h := h.2
    intro I5 eI5
    have h := h I5 eI5
    have hF := hF.pw eI5 (by decide)
    intro I6 eI6
    have h := h I6 eI6
    have hF := hF.pf eI6 (by decide)
    exact hQ _ _ _ hF hL h
  · have h := h.2 hc
    exact hQ _ _ _ hF hL h
abbrev wsI_X11_tale : List Nat := [86, 87, 88, 89, 90]
abbrev wsL_X11_tale : List Nat := []
abbrev fsI_X11_tale : List (Nat × Nat) := [(85, 0)]
abbrev fsL_X11_tale : List (Nat × Nat) := []
set_option maxRecDepth 10000 in
theorem mnX11_tale {a1 : Int32} {a2 : Int32} {a3 : Int32} {I : Ix} {L : Lx} {Q Q' : Int32 → Ix → Lx → Prop} (hQ : ∀ (r : Int32) (I1 : Ix) (L1 : Lx), FrI (wsI_X11_tale) (fsI_X11_tale) I I1 → FrL (wsL_X11_tale) (fsL_X11_tale) L L1 → Q r I1 L1 → Q' r I1 L1) (h : wpX11_tale a1 a2 a3 I L Q) : wpX11_tale a1 a2 a3 I L Q' := by
  have hF : FrI (wsI_X11_tale) (fsI_X11_tale) I I := FrI.rf
  have hL : FrL (wsL_X11_tale) (fsL_X11_tale) L L := FrL.rf
  unfold wpX11_tale at h ⊢
  refine ⟨fun hc => ?_, fun hc => ?_⟩
  · have h := h.1 hc
    exact hQ _ _ _ hF hL h
  · have h := h.2 hc
    refine ⟨fun hc => ?_, fun hc => ?_⟩
    · have h := h.1 hc
      exact hQ _ _ _ hF hL h
    · have h := h.2 hc
      refine mnX11_isThing (fun r3 I1 L2 hf hl h => ?_) h
      have hF := hF.tr hf (by decide) (by decide)
      have hL := hL.tr hl (by decide) (by decide)
      refine ⟨fun hc => ?_, fun hc => ?_⟩
      · have h := h.1 hc
        exact hQ _ _ _ hF hL h
      · have h := h.2 hc
        refine mnX11_isPersonOrNobody (fun r6 I4 L5 hf hl h => ?_) h
        have hF := hF.tr hf (by decide) (by decide)
        have hL := hL.tr hl (by decide) (by decide)
        refine ⟨fun hc => ?_, fun hc => ?_⟩
        · have h := h.1 hc
          refine mnX6_add (fun r9 I7 L8 hf hl h => ?_) h
          have hF := hF.tr hf (by decide) (by decide)
          have hL := hL.tr hl (by decide) (by decide)
          exact hQ _ _ _ hF hL h
        · have h := h.2 hc
          exact hQ _ _ _ hF hL h
abbrev wsI_X6_takeBack : List Nat := [90]
abbrev wsL_X6_takeBack : List Nat := []
abbrev fsI_X6_takeBack : List (Nat × Nat) := []
abbrev fsL_X6_takeBack : List (Nat × Nat) := []
set_option maxRecDepth 10000 in
theorem mnX6_takeBack {a1 : Int32} {a2 : Int32} {I : Ix} {L : Lx} {Q Q' : Bool → Ix → Lx → Prop} (hQ : ∀ (r : Bool) (I1 : Ix) (L1 : Lx), FrI (wsI_X6_takeBack) (fsI_X6_takeBack) I I1 → FrL (wsL_X6_takeBack) (fsL_X6_takeBack) L L1 → Q r I1 L1 → Q' r I1 L1) (h : wpX6_takeBack a1 a2 I L Q) : wpX6_takeBack a1 a2 I L Q' := by
  have hF : FrI (wsI_X6_takeBack) (fsI_X6_takeBack) I I := FrI.rf
  have hL : FrL (wsL_X6_takeBack) (fsL_X6_takeBack) L L := FrL.rf
  unfold wpX6_takeBack at h ⊢
  refine ⟨fun hc => ?_, fun hc => ?_⟩
  · have h := h.1 hc
    exact hQ _ _ _ hF hL h
  · have h := h.2 hc
    refine ⟨fun hc => ?_, fun hc => ?_⟩
    · have h := h.1 hc
      exact hQ _ _ _ hF hL h
    · have h := h.2 hc
      refine ⟨h.1, ?_⟩
      have h := h.2
      refine ⟨fun hc => ?_, fun hc => ?_⟩
      · have h := h.1 hc
        refine ⟨h.1, ?_⟩
        have h := h.2
        intro I1 eI1
        have h := h I1 eI1
        have hF := hF.pw eI1 (by decide)
        exact hQ _ _ _ hF hL h
      · have h := h.2 hc
        exact hQ _ _ _ hF hL h
abbrev wsI_X11_untell : List Nat := [90]
abbrev wsL_X11_untell : List Nat := []
abbrev fsI_X11_untell : List (Nat × Nat) := []
abbrev fsL_X11_untell : List (Nat × Nat) := []
set_option maxRecDepth 10000 in
theorem mnX11_untell {a1 : Int32} {I : Ix} {L : Lx} {Q Q' : Bool → Ix → Lx → Prop} (hQ : ∀ (r : Bool) (I1 : Ix) (L1 : Lx), FrI (wsI_X11_untell) (fsI_X11_untell) I I1 → FrL (wsL_X11_untell) (fsL_X11_untell) L L1 → Q r I1 L1 → Q' r I1 L1) (h : wpX11_untell a1 I L Q) : wpX11_untell a1 I L Q' := by
  have hF : FrI (wsI_X11_untell) (fsI_X11_untell) I I := FrI.rf
  have hL : FrL (wsL_X11_untell) (fsL_X11_untell) L L := FrL.rf
  unfold wpX11_untell at h ⊢
  refine mnX6_takeBack (fun r3 I1 L2 hf hl h => ?_) h
  have hF := hF.tr hf (by decide) (by decide)
  have hL := hL.tr hl (by decide) (by decide)
  exact hQ _ _ _ hF hL h
abbrev wsI_X11_later : List Nat := []
abbrev wsL_X11_later : List Nat := []
abbrev fsI_X11_later : List (Nat × Nat) := [(0, 11)]
abbrev fsL_X11_later : List (Nat × Nat) := []
set_option maxRecDepth 10000 in
theorem mnX11_later {a1 : Int32} {I : Ix} {L : Lx} {Q Q' : Int32 → Ix → Lx → Prop} (hQ : ∀ (r : Int32) (I1 : Ix) (L1 : Lx), FrI (wsI_X11_later) (fsI_X11_later) I I1 → FrL (wsL_X11_later) (fsL_X11_later) L L1 → Q r I1 L1 → Q' r I1 L1) (h : wpX11_later a1 I L Q) : wpX11_later a1 I L Q' := by
  have hF : FrI (wsI_X11_later) (fsI_X11_later) I I := FrI.rf
  have hL : FrL (wsL_X11_later) (fsL_X11_later) L L := FrL.rf
  unfold wpX11_later at h ⊢
  refine ⟨fun hc => ?_, fun hc => ?_⟩
  · have h := h.1 hc
    exact hQ _ _ _ hF hL h
  · have h := h.2 hc
    refine ⟨fun hc => ?_, fun hc => ?_⟩
    · have h := h.1 hc
      exact hQ _ _ _ hF hL h
    · have h := h.2 hc
      refine ⟨fun hc => ?_, fun hc => ?_⟩
      · have h := h.1 hc
        intro I1 eI1
        have h := h I1 eI1
        have hF := hF.pf eI1 (by decide)
        exact hQ _ _ _ hF hL h
      · have h := h.2 hc
        exact hQ _ _ _ hF hL h
abbrev wsI_X6_counts : List Nat := []
abbrev wsL_X6_counts : List Nat := []
abbrev fsI_X6_counts : List (Nat × Nat) := []
abbrev fsL_X6_counts : List (Nat × Nat) := []
set_option maxRecDepth 10000 in
theorem mnX6_counts_b30 {I0 : Ix} {L0 : Lx} {Q Q' : Bool → Ix → Lx → Prop} (hQ : ∀ (r : Bool) (I1 : Ix) (L1 : Lx), FrI (wsI_X6_counts) (fsI_X6_counts) I0 I1 → FrL (wsL_X6_counts) (fsL_X6_counts) L0 L1 → Q r I1 L1 → Q' r I1 L1) {I : Ix} {L : Lx} (hF : FrI (wsI_X6_counts) (fsI_X6_counts) I0 I) (hL : FrL (wsL_X6_counts) (fsL_X6_counts) L0 L) (h : wpX6_counts_b30 Q I L) : wpX6_counts_b30 Q' I L := by
  unfold wpX6_counts_b30 at h ⊢
  exact hQ _ _ _ hF hL h
set_option maxRecDepth 10000 in
theorem mnX6_counts {a1 : Int32} {a2 : Int32} {I : Ix} {L : Lx} {Q Q' : Bool → Ix → Lx → Prop} (hQ : ∀ (r : Bool) (I1 : Ix) (L1 : Lx), FrI (wsI_X6_counts) (fsI_X6_counts) I I1 → FrL (wsL_X6_counts) (fsL_X6_counts) L L1 → Q r I1 L1 → Q' r I1 L1) (h : wpX6_counts a1 a2 I L Q) : wpX6_counts a1 a2 I L Q' := by
  have hF : FrI (wsI_X6_counts) (fsI_X6_counts) I I := FrI.rf
  have hL : FrL (wsL_X6_counts) (fsL_X6_counts) L L := FrL.rf
  unfold wpX6_counts at h ⊢
  refine ⟨h.1, ?_⟩
  have h := h.2
  refine ⟨fun hc => ?_, fun hc => ?_⟩
  · have h := h.1 hc
    exact hQ _ _ _ hF hL h
  · have h := h.2 hc
    refine ⟨h.1, ?_⟩
    have h := h.2
    refine ⟨fun hc => ?_, fun hc => ?_⟩
    · have h := h.1 hc
      exact mnX6_counts_b30 hQ hF hL h
    · have h := h.2 hc
      refine ⟨h.1, ?_⟩
      have h := h.2
      refine ⟨fun hc => ?_, fun hc => ?_⟩
      · have h := h.1 hc
        exact hQ _ _ _ hF hL h
      · have h := h.2 hc
        exact mnX6_counts_b30 hQ hF hL h
abbrev wsI_X6_isFalse (o2 : Nat) : List Nat := []
abbrev wsL_X6_isFalse (o2 : Nat) : List Nat := []
abbrev fsI_X6_isFalse (o2 : Nat) : List (Nat × Nat) := []
abbrev fsL_X6_isFalse (o2 : Nat) : List (Nat × Nat) := []
set_option maxRecDepth 10000 in
theorem mnX6_isFalse {o2 : Nat} {a1 : Int32} {I : Ix} {L : Lx} {Q Q' : Bool → Ix → Lx → Prop} (hQ : ∀ (r : Bool) (I1 : Ix) (L1 : Lx), FrI (wsI_X6_isFalse o2) (fsI_X6_isFalse o2) I I1 → FrL (wsL_X6_isFalse o2) (fsL_X6_isFalse o2) L L1 → Q r I1 L1 → Q' r I1 L1) (h : wpX6_isFalse o2 a1 I L Q) : wpX6_isFalse o2 a1 I L Q' := by
  have hF : FrI (wsI_X6_isFalse o2) (fsI_X6_isFalse o2) I I := FrI.rf
  have hL : FrL (wsL_X6_isFalse o2) (fsL_X6_isFalse o2) L L := FrL.rf
  unfold wpX6_isFalse at h ⊢
  refine ⟨h.1, ?_⟩
  have h := h.2
  refine ⟨fun hc => ?_, fun hc => ?_⟩
  · have h := h.1 hc
    exact hQ _ _ _ hF hL h
  · have h := h.2 hc
    refine ⟨h.1, ?_⟩
    have h := h.2
    refine ⟨h.1, ?_⟩
    have h := h.2
    refine mnX2_ownerBehind (fun r3 I1 L2 hf hl h => ?_) h
    have hF := hF.tr hf (by intro k hk; first | (simp only [List.mem_cons, List.not_mem_nil, or_false] at hk ⊢; omega) | (simp at hk; done) | (simp at hk ⊢; omega)) (by intro q hq; obtain ⟨k, j⟩ := q; first | (simp only [List.mem_cons, List.not_mem_nil, or_false, Prod.mk.injEq] at hq ⊢; omega) | (simp at hq; done))
    have hL := hL.tr hl (by intro k hk; first | (simp only [List.mem_cons, List.not_mem_nil, or_false] at hk ⊢; omega) | (simp at hk; done) | (simp at hk ⊢; omega)) (by intro q hq; obtain ⟨k, j⟩ := q; first | (simp only [List.mem_cons, List.not_mem_nil, or_false, Prod.mk.injEq] at hq ⊢; omega) | (simp at hq; done))
    refine ⟨h.1, ?_⟩
    have h := h.2
    refine ⟨fun hc => ?_, fun hc => ?_⟩
    · have h := h.1 hc
      exact hQ _ _ _ hF hL h
    · have h := h.2 hc
      exact hQ _ _ _ hF hL h
abbrev wsI_X6_countFalse (o1 : Nat) : List Nat := []
abbrev wsL_X6_countFalse (o1 : Nat) : List Nat := []
abbrev fsI_X6_countFalse (o1 : Nat) : List (Nat × Nat) := []
abbrev fsL_X6_countFalse (o1 : Nat) : List (Nat × Nat) := []
set_option maxRecDepth 10000 in
theorem mnX6_countFalse_l5 {o1 : Nat} {I0 : Ix} {L0 : Lx} {Q Q' : Int32 → Ix → Lx → Prop} {P5 P5' : Int32 → Int32 → Int32 → Ix → Lx → Prop} (hQ : ∀ (r : Int32) (I1 : Ix) (L1 : Lx), FrI (wsI_X6_countFalse o1) (fsI_X6_countFalse o1) I0 I1 → FrL (wsL_X6_countFalse o1) (fsL_X6_countFalse o1) L0 L1 → Q r I1 L1 → Q' r I1 L1) (hP5 : ∀ (v2 : Int32) (v3 : Int32) (v4 : Int32) (I1 : Ix) (L1 : Lx), FrI (wsI_X6_countFalse o1) (fsI_X6_countFalse o1) I0 I1 → FrL (wsL_X6_countFalse o1) (fsL_X6_countFalse o1) L0 L1 → P5 v2 v3 v4 I1 L1 → P5' v2 v3 v4 I1 L1) {v2 : Int32} {v3 : Int32} {v4 : Int32} {I : Ix} {L : Lx} (hF : FrI (wsI_X6_countFalse o1) (fsI_X6_countFalse o1) I0 I) (hL : FrL (wsL_X6_countFalse o1) (fsL_X6_countFalse o1) L0 L) (h : wpX6_countFalse_l5 o1 Q P5 v2 v3 v4 I L) : wpX6_countFalse_l5 o1 Q' P5' v2 v3 v4 I L := by
  unfold wpX6_countFalse_l5 at h ⊢
  refine ⟨fun hc => ?_, fun hc => ?_⟩
  · have h := h.1 hc
    exact hQ _ _ _ hF hL h
  · have h := h.2 hc
    refine mnX6_counts (fun r3 I1 L2 hf hl h => ?_) h
    have hF := hF.tr hf (by intro k hk; first | (simp only [List.mem_cons, List.not_mem_nil, or_false] at hk ⊢; omega) | (simp at hk; done) | (simp at hk ⊢; omega)) (by intro q hq; obtain ⟨k, j⟩ := q; first | (simp only [List.mem_cons, List.not_mem_nil, or_false, Prod.mk.injEq] at hq ⊢; omega) | (simp at hq; done))
    have hL := hL.tr hl (by intro k hk; first | (simp only [List.mem_cons, List.not_mem_nil, or_false] at hk ⊢; omega) | (simp at hk; done) | (simp at hk ⊢; omega)) (by intro q hq; obtain ⟨k, j⟩ := q; first | (simp only [List.mem_cons, List.not_mem_nil, or_false, Prod.mk.injEq] at hq ⊢; omega) | (simp at hq; done))
    refine ⟨fun hc => ?_, fun hc => ?_⟩
    · have h := h.1 hc
      exact hP5 _ _ _ _ _ hF hL h
    · have h := h.2 hc
      refine mnX6_isFalse (fun r6 I4 L5 hf hl h => ?_) h
      have hF := hF.tr hf (by intro k hk; first | (simp only [List.mem_cons, List.not_mem_nil, or_false] at hk ⊢; omega) | (simp at hk; done) | (simp at hk ⊢; omega)) (by intro q hq; obtain ⟨k, j⟩ := q; first | (simp only [List.mem_cons, List.not_mem_nil, or_false, Prod.mk.injEq] at hq ⊢; omega) | (simp at hq; done))
      have hL := hL.tr hl (by intro k hk; first | (simp only [List.mem_cons, List.not_mem_nil, or_false] at hk ⊢; omega) | (simp at hk; done) | (simp at hk ⊢; omega)) (by intro q hq; obtain ⟨k, j⟩ := q; first | (simp only [List.mem_cons, List.not_mem_nil, or_false, Prod.mk.injEq] at hq ⊢; omega) | (simp at hq; done))
      refine ⟨fun hc => ?_, fun hc => ?_⟩
      · have h := h.1 hc
        exact hP5 _ _ _ _ _ hF hL h
      · have h := h.2 hc
        exact hP5 _ _ _ _ _ hF hL h
set_option maxRecDepth 10000 in
theorem mnX6_countFalse_h5 {o1 : Nat} {I0 : Ix} {L0 : Lx} {Q Q' : Int32 → Ix → Lx → Prop} (hQ : ∀ (r : Int32) (I1 : Ix) (L1 : Lx), FrI (wsI_X6_countFalse o1) (fsI_X6_countFalse o1) I0 I1 → FrL (wsL_X6_countFalse o1) (fsL_X6_countFalse o1) L0 L1 → Q r I1 L1 → Q' r I1 L1) {v2 : Int32} {v3 : Int32} {v4 : Int32} {I : Ix} {L : Lx} (hF : FrI (wsI_X6_countFalse o1) (fsI_X6_countFalse o1) I0 I) (hL : FrL (wsL_X6_countFalse o1) (fsL_X6_countFalse o1) L0 L) (h : wpX6_countFalse_h5 o1 Q v2 v3 v4 I L) : wpX6_countFalse_h5 o1 Q' v2 v3 v4 I L := by
  unfold wpX6_countFalse_h5 at h
  refine Lfp.ind (P := fun z => FrI (wsI_X6_countFalse o1) (fsI_X6_countFalse o1) I0 z.2.2.2.1 → FrL (wsL_X6_countFalse o1) (fsL_X6_countFalse o1) L0 z.2.2.2.2 → wpX6_countFalse_h5 o1 Q' z.1 z.2.1 z.2.2.1 z.2.2.2.1 z.2.2.2.2) ?_ h hF hL
  intro z P' hP' h hF hL
  obtain ⟨v2, v3, v4, I, L⟩ := z
  exact wpX6_countFalse_h5_fold (mnX6_countFalse_l5 hQ (fun v2 v3 v4 I L hF hL h9 => hP' (v2, v3, v4, I, L) h9 hF hL) hF hL h)
set_option maxRecDepth 10000 in
theorem mnX6_countFalse {o1 : Nat} {a2 : Int32} {I : Ix} {L : Lx} {Q Q' : Int32 → Ix → Lx → Prop} (hQ : ∀ (r : Int32) (I1 : Ix) (L1 : Lx), FrI (wsI_X6_countFalse o1) (fsI_X6_countFalse o1) I I1 → FrL (wsL_X6_countFalse o1) (fsL_X6_countFalse o1) L L1 → Q r I1 L1 → Q' r I1 L1) (h : wpX6_countFalse o1 a2 I L Q) : wpX6_countFalse o1 a2 I L Q' := by
  have hF : FrI (wsI_X6_countFalse o1) (fsI_X6_countFalse o1) I I := FrI.rf
  have hL : FrL (wsL_X6_countFalse o1) (fsL_X6_countFalse o1) L L := FrL.rf
  unfold wpX6_countFalse at h ⊢
  exact mnX6_countFalse_h5 hQ hF hL h
abbrev wsI_X6_countOpen (o1 : Nat) : List Nat := []
abbrev wsL_X6_countOpen (o1 : Nat) : List Nat := []
abbrev fsI_X6_countOpen (o1 : Nat) : List (Nat × Nat) := []
abbrev fsL_X6_countOpen (o1 : Nat) : List (Nat × Nat) := []
set_option maxRecDepth 10000 in
theorem mnX6_countOpen_l5 {o1 : Nat} {I0 : Ix} {L0 : Lx} {Q Q' : Int32 → Ix → Lx → Prop} {P5 P5' : Int32 → Int32 → Int32 → Ix → Lx → Prop} (hQ : ∀ (r : Int32) (I1 : Ix) (L1 : Lx), FrI (wsI_X6_countOpen o1) (fsI_X6_countOpen o1) I0 I1 → FrL (wsL_X6_countOpen o1) (fsL_X6_countOpen o1) L0 L1 → Q r I1 L1 → Q' r I1 L1) (hP5 : ∀ (v2 : Int32) (v3 : Int32) (v4 : Int32) (I1 : Ix) (L1 : Lx), FrI (wsI_X6_countOpen o1) (fsI_X6_countOpen o1) I0 I1 → FrL (wsL_X6_countOpen o1) (fsL_X6_countOpen o1) L0 L1 → P5 v2 v3 v4 I1 L1 → P5' v2 v3 v4 I1 L1) {v2 : Int32} {v3 : Int32} {v4 : Int32} {I : Ix} {L : Lx} (hF : FrI (wsI_X6_countOpen o1) (fsI_X6_countOpen o1) I0 I) (hL : FrL (wsL_X6_countOpen o1) (fsL_X6_countOpen o1) L0 L) (h : wpX6_countOpen_l5 o1 Q P5 v2 v3 v4 I L) : wpX6_countOpen_l5 o1 Q' P5' v2 v3 v4 I L := by
  unfold wpX6_countOpen_l5 at h ⊢
  refine ⟨fun hc => ?_, fun hc => ?_⟩
  · have h := h.1 hc
    exact hQ _ _ _ hF hL h
  · have h := h.2 hc
    refine mnX6_counts (fun r3 I1 L2 hf hl h => ?_) h
    have hF := hF.tr hf (by intro k hk; first | (simp only [List.mem_cons, List.not_mem_nil, or_false] at hk ⊢; omega) | (simp at hk; done) | (simp at hk ⊢; omega)) (by intro q hq; obtain ⟨k, j⟩ := q; first | (simp only [List.mem_cons, List.not_mem_nil, or_false, Prod.mk.injEq] at hq ⊢; omega) | (simp at hq; done))
    have hL := hL.tr hl (by intro k hk; first | (simp only [List.mem_cons, List.not_mem_nil, or_false] at hk ⊢; omega) | (simp at hk; done) | (simp at hk ⊢; omega)) (by intro q hq; obtain ⟨k, j⟩ := q; first | (simp only [List.mem_cons, List.not_mem_nil, or_false, Prod.mk.injEq] at hq ⊢; omega) | (simp at hq; done))
    refine ⟨fun hc => ?_, fun hc => ?_⟩
    · have h := h.1 hc
      exact hP5 _ _ _ _ _ hF hL h
    · have h := h.2 hc
      refine ⟨h.1, ?_⟩
      have h := h.2
      refine ⟨fun hc => ?_, fun hc => ?_⟩
      · have h := h.1 hc
        exact hP5 _ _ _ _ _ hF hL h
      · have h := h.2 hc
        exact hP5 _ _ _ _ _ hF hL h
set_option maxRecDepth 10000 in
theorem mnX6_countOpen_h5 {o1 : Nat} {I0 : Ix} {L0 : Lx} {Q Q' : Int32 → Ix → Lx → Prop} (hQ : ∀ (r : Int32) (I1 : Ix) (L1 : Lx), FrI (wsI_X6_countOpen o1) (fsI_X6_countOpen o1) I0 I1 → FrL (wsL_X6_countOpen o1) (fsL_X6_countOpen o1) L0 L1 → Q r I1 L1 → Q' r I1 L1) {v2 : Int32} {v3 : Int32} {v4 : Int32} {I : Ix} {L : Lx} (hF : FrI (wsI_X6_countOpen o1) (fsI_X6_countOpen o1) I0 I) (hL : FrL (wsL_X6_countOpen o1) (fsL_X6_countOpen o1) L0 L) (h : wpX6_countOpen_h5 o1 Q v2 v3 v4 I L) : wpX6_countOpen_h5 o1 Q' v2 v3 v4 I L := by
  unfold wpX6_countOpen_h5 at h
  refine Lfp.ind (P := fun z => FrI (wsI_X6_countOpen o1) (fsI_X6_countOpen o1) I0 z.2.2.2.1 → FrL (wsL_X6_countOpen o1) (fsL_X6_countOpen o1) L0 z.2.2.2.2 → wpX6_countOpen_h5 o1 Q' z.1 z.2.1 z.2.2.1 z.2.2.2.1 z.2.2.2.2) ?_ h hF hL
  intro z P' hP' h hF hL
  obtain ⟨v2, v3, v4, I, L⟩ := z
  exact wpX6_countOpen_h5_fold (mnX6_countOpen_l5 hQ (fun v2 v3 v4 I L hF hL h9 => hP' (v2, v3, v4, I, L) h9 hF hL) hF hL h)
set_option maxRecDepth 10000 in
theorem mnX6_countOpen {o1 : Nat} {a2 : Int32} {I : Ix} {L : Lx} {Q Q' : Int32 → Ix → Lx → Prop} (hQ : ∀ (r : Int32) (I1 : Ix) (L1 : Lx), FrI (wsI_X6_countOpen o1) (fsI_X6_countOpen o1) I I1 → FrL (wsL_X6_countOpen o1) (fsL_X6_countOpen o1) L L1 → Q r I1 L1 → Q' r I1 L1) (h : wpX6_countOpen o1 a2 I L Q) : wpX6_countOpen o1 a2 I L Q' := by
  have hF : FrI (wsI_X6_countOpen o1) (fsI_X6_countOpen o1) I I := FrI.rf
  have hL : FrL (wsL_X6_countOpen o1) (fsL_X6_countOpen o1) L L := FrL.rf
  unfold wpX6_countOpen at h ⊢
  exact mnX6_countOpen_h5 hQ hF hL h
abbrev wsI_X6_firstFalse (o1 : Nat) : List Nat := []
abbrev wsL_X6_firstFalse (o1 : Nat) : List Nat := []
abbrev fsI_X6_firstFalse (o1 : Nat) : List (Nat × Nat) := []
abbrev fsL_X6_firstFalse (o1 : Nat) : List (Nat × Nat) := []
set_option maxRecDepth 10000 in
theorem mnX6_firstFalse_l2 {o1 : Nat} {I0 : Ix} {L0 : Lx} {Q Q' : Int32 → Ix → Lx → Prop} {P2 P2' : Int32 → Int32 → Ix → Lx → Prop} (hQ : ∀ (r : Int32) (I1 : Ix) (L1 : Lx), FrI (wsI_X6_firstFalse o1) (fsI_X6_firstFalse o1) I0 I1 → FrL (wsL_X6_firstFalse o1) (fsL_X6_firstFalse o1) L0 L1 → Q r I1 L1 → Q' r I1 L1) (hP2 : ∀ (v2 : Int32) (v3 : Int32) (I1 : Ix) (L1 : Lx), FrI (wsI_X6_firstFalse o1) (fsI_X6_firstFalse o1) I0 I1 → FrL (wsL_X6_firstFalse o1) (fsL_X6_firstFalse o1) L0 L1 → P2 v2 v3 I1 L1 → P2' v2 v3 I1 L1) {v2 : Int32} {v3 : Int32} {I : Ix} {L : Lx} (hF : FrI (wsI_X6_firstFalse o1) (fsI_X6_firstFalse o1) I0 I) (hL : FrL (wsL_X6_firstFalse o1) (fsL_X6_firstFalse o1) L0 L) (h : wpX6_firstFalse_l2 o1 Q P2 v2 v3 I L) : wpX6_firstFalse_l2 o1 Q' P2' v2 v3 I L := by
  unfold wpX6_firstFalse_l2 at h ⊢
  refine ⟨fun hc => ?_, fun hc => ?_⟩
  · have h := h.1 hc
    exact hQ _ _ _ hF hL h
  · have h := h.2 hc
    refine mnX6_counts (fun r3 I1 L2 hf hl h => ?_) h
    have hF := hF.tr hf (by intro k hk; first | (simp only [List.mem_cons, List.not_mem_nil, or_false] at hk ⊢; omega) | (simp at hk; done) | (simp at hk ⊢; omega)) (by intro q hq; obtain ⟨k, j⟩ := q; first | (simp only [List.mem_cons, List.not_mem_nil, or_false, Prod.mk.injEq] at hq ⊢; omega) | (simp at hq; done))
    have hL := hL.tr hl (by intro k hk; first | (simp only [List.mem_cons, List.not_mem_nil, or_false] at hk ⊢; omega) | (simp at hk; done) | (simp at hk ⊢; omega)) (by intro q hq; obtain ⟨k, j⟩ := q; first | (simp only [List.mem_cons, List.not_mem_nil, or_false, Prod.mk.injEq] at hq ⊢; omega) | (simp at hq; done))
    refine ⟨fun hc => ?_, fun hc => ?_⟩
    · have h := h.1 hc
      exact hP2 _ _ _ _ hF hL h
    · have h := h.2 hc
      refine mnX6_isFalse (fun r6 I4 L5 hf hl h => ?_) h
      have hF := hF.tr hf (by intro k hk; first | (simp only [List.mem_cons, List.not_mem_nil, or_false] at hk ⊢; omega) | (simp at hk; done) | (simp at hk ⊢; omega)) (by intro q hq; obtain ⟨k, j⟩ := q; first | (simp only [List.mem_cons, List.not_mem_nil, or_false, Prod.mk.injEq] at hq ⊢; omega) | (simp at hq; done))
      have hL := hL.tr hl (by intro k hk; first | (simp only [List.mem_cons, List.not_mem_nil, or_false] at hk ⊢; omega) | (simp at hk; done) | (simp at hk ⊢; omega)) (by intro q hq; obtain ⟨k, j⟩ := q; first | (simp only [List.mem_cons, List.not_mem_nil, or_false, Prod.mk.injEq] at hq ⊢; omega) | (simp at hq; done))
      refine ⟨fun hc => ?_, fun hc => ?_⟩
      · have h := h.1 hc
        exact hP2 _ _ _ _ hF hL h
      · have h := h.2 hc
        exact hQ _ _ _ hF hL h
set_option maxRecDepth 10000 in
theorem mnX6_firstFalse_h2 {o1 : Nat} {I0 : Ix} {L0 : Lx} {Q Q' : Int32 → Ix → Lx → Prop} (hQ : ∀ (r : Int32) (I1 : Ix) (L1 : Lx), FrI (wsI_X6_firstFalse o1) (fsI_X6_firstFalse o1) I0 I1 → FrL (wsL_X6_firstFalse o1) (fsL_X6_firstFalse o1) L0 L1 → Q r I1 L1 → Q' r I1 L1) {v2 : Int32} {v3 : Int32} {I : Ix} {L : Lx} (hF : FrI (wsI_X6_firstFalse o1) (fsI_X6_firstFalse o1) I0 I) (hL : FrL (wsL_X6_firstFalse o1) (fsL_X6_firstFalse o1) L0 L) (h : wpX6_firstFalse_h2 o1 Q v2 v3 I L) : wpX6_firstFalse_h2 o1 Q' v2 v3 I L := by
  unfold wpX6_firstFalse_h2 at h
  refine Lfp.ind (P := fun z => FrI (wsI_X6_firstFalse o1) (fsI_X6_firstFalse o1) I0 z.2.2.1 → FrL (wsL_X6_firstFalse o1) (fsL_X6_firstFalse o1) L0 z.2.2.2 → wpX6_firstFalse_h2 o1 Q' z.1 z.2.1 z.2.2.1 z.2.2.2) ?_ h hF hL
  intro z P' hP' h hF hL
  obtain ⟨v2, v3, I, L⟩ := z
  exact wpX6_firstFalse_h2_fold (mnX6_firstFalse_l2 hQ (fun v2 v3 I L hF hL h9 => hP' (v2, v3, I, L) h9 hF hL) hF hL h)
set_option maxRecDepth 10000 in
theorem mnX6_firstFalse {o1 : Nat} {a2 : Int32} {I : Ix} {L : Lx} {Q Q' : Int32 → Ix → Lx → Prop} (hQ : ∀ (r : Int32) (I1 : Ix) (L1 : Lx), FrI (wsI_X6_firstFalse o1) (fsI_X6_firstFalse o1) I I1 → FrL (wsL_X6_firstFalse o1) (fsL_X6_firstFalse o1) L L1 → Q r I1 L1 → Q' r I1 L1) (h : wpX6_firstFalse o1 a2 I L Q) : wpX6_firstFalse o1 a2 I L Q' := by
  have hF : FrI (wsI_X6_firstFalse o1) (fsI_X6_firstFalse o1) I I := FrI.rf
  have hL : FrL (wsL_X6_firstFalse o1) (fsL_X6_firstFalse o1) L L := FrL.rf
  unfold wpX6_firstFalse at h ⊢
  exact mnX6_firstFalse_h2 hQ hF hL h
abbrev wsI_X6_contradictsEarlier : List Nat := []
abbrev wsL_X6_contradictsEarlier : List Nat := []
abbrev fsI_X6_contradictsEarlier : List (Nat × Nat) := []
abbrev fsL_X6_contradictsEarlier : List (Nat × Nat) := []
set_option maxRecDepth 10000 in
theorem mnX6_contradictsEarlier_b42 {I0 : Ix} {L0 : Lx} {Q Q' : Bool → Ix → Lx → Prop} {P2 P2' : Int32 → Int32 → Int32 → Ix → Lx → Prop} (hQ : ∀ (r : Bool) (I1 : Ix) (L1 : Lx), FrI (wsI_X6_contradictsEarlier) (fsI_X6_contradictsEarlier) I0 I1 → FrL (wsL_X6_contradictsEarlier) (fsL_X6_contradictsEarlier) L0 L1 → Q r I1 L1 → Q' r I1 L1) (hP2 : ∀ (v1 : Int32) (v2 : Int32) (v3 : Int32) (I1 : Ix) (L1 : Lx), FrI (wsI_X6_contradictsEarlier) (fsI_X6_contradictsEarlier) I0 I1 → FrL (wsL_X6_contradictsEarlier) (fsL_X6_contradictsEarlier) L0 L1 → P2 v1 v2 v3 I1 L1 → P2' v1 v2 v3 I1 L1) {v1 : Int32} {v2 : Int32} {v3 : Int32} {t0 : Int32} {I : Ix} {L : Lx} (hF : FrI (wsI_X6_contradictsEarlier) (fsI_X6_contradictsEarlier) I0 I) (hL : FrL (wsL_X6_contradictsEarlier) (fsL_X6_contradictsEarlier) L0 L) (h : wpX6_contradictsEarlier_b42 Q P2 v1 v2 v3 t0 I L) : wpX6_contradictsEarlier_b42 Q' P2' v1 v2 v3 t0 I L := by
  unfold wpX6_contradictsEarlier_b42 at h ⊢
  refine ⟨fun hc => ?_, fun hc => ?_⟩
  · have h := h.1 hc
    exact hP2 _ _ _ _ _ hF hL h
  · have h := h.2 hc
    refine mnX6_counts (fun r3 I1 L2 hf hl h => ?_) h
    have hF := hF.tr hf (by decide) (by decide)
    have hL := hL.tr hl (by decide) (by decide)
    refine ⟨fun hc => ?_, fun hc => ?_⟩
    · have h := h.1 hc
      exact hP2 _ _ _ _ _ hF hL h
    · have h := h.2 hc
      refine ⟨h.1, ?_⟩
      have h := h.2
      refine ⟨h.1, ?_⟩
      have h := h.2
      refine ⟨fun hc => ?_, fun hc => ?_⟩
      · have h := h.1 hc
        exact hP2 _ _ _ _ _ hF hL h
      · have h := h.2 hc
        exact hQ _ _ _ hF hL h
set_option maxRecDepth 10000 in
theorem mnX6_contradictsEarlier_b41 {I0 : Ix} {L0 : Lx} {Q Q' : Bool → Ix → Lx → Prop} {P2 P2' : Int32 → Int32 → Int32 → Ix → Lx → Prop} (hQ : ∀ (r : Bool) (I1 : Ix) (L1 : Lx), FrI (wsI_X6_contradictsEarlier) (fsI_X6_contradictsEarlier) I0 I1 → FrL (wsL_X6_contradictsEarlier) (fsL_X6_contradictsEarlier) L0 L1 → Q r I1 L1 → Q' r I1 L1) (hP2 : ∀ (v1 : Int32) (v2 : Int32) (v3 : Int32) (I1 : Ix) (L1 : Lx), FrI (wsI_X6_contradictsEarlier) (fsI_X6_contradictsEarlier) I0 I1 → FrL (wsL_X6_contradictsEarlier) (fsL_X6_contradictsEarlier) L0 L1 → P2 v1 v2 v3 I1 L1 → P2' v1 v2 v3 I1 L1) {v1 : Int32} {v2 : Int32} {v3 : Int32} {I : Ix} {L : Lx} (hF : FrI (wsI_X6_contradictsEarlier) (fsI_X6_contradictsEarlier) I0 I) (hL : FrL (wsL_X6_contradictsEarlier) (fsL_X6_contradictsEarlier) L0 L) (h : wpX6_contradictsEarlier_b41 Q P2 v1 v2 v3 I L) : wpX6_contradictsEarlier_b41 Q' P2' v1 v2 v3 I L := by
  unfold wpX6_contradictsEarlier_b41 at h ⊢
  exact mnX6_contradictsEarlier_b42 hQ hP2 hF hL h
set_option maxRecDepth 10000 in
theorem mnX6_contradictsEarlier_l2 {I0 : Ix} {L0 : Lx} {Q Q' : Bool → Ix → Lx → Prop} {P2 P2' : Int32 → Int32 → Int32 → Ix → Lx → Prop} (hQ : ∀ (r : Bool) (I1 : Ix) (L1 : Lx), FrI (wsI_X6_contradictsEarlier) (fsI_X6_contradictsEarlier) I0 I1 → FrL (wsL_X6_contradictsEarlier) (fsL_X6_contradictsEarlier) L0 L1 → Q r I1 L1 → Q' r I1 L1) (hP2 : ∀ (v1 : Int32) (v2 : Int32) (v3 : Int32) (I1 : Ix) (L1 : Lx), FrI (wsI_X6_contradictsEarlier) (fsI_X6_contradictsEarlier) I0 I1 → FrL (wsL_X6_contradictsEarlier) (fsL_X6_contradictsEarlier) L0 L1 → P2 v1 v2 v3 I1 L1 → P2' v1 v2 v3 I1 L1) {v1 : Int32} {v2 : Int32} {v3 : Int32} {I : Ix} {L : Lx} (hF : FrI (wsI_X6_contradictsEarlier) (fsI_X6_contradictsEarlier) I0 I) (hL : FrL (wsL_X6_contradictsEarlier) (fsL_X6_contradictsEarlier) L0 L) (h : wpX6_contradictsEarlier_l2 Q P2 v1 v2 v3 I L) : wpX6_contradictsEarlier_l2 Q' P2' v1 v2 v3 I L := by
  unfold wpX6_contradictsEarlier_l2 at h ⊢
  refine ⟨fun hc => ?_, fun hc => ?_⟩
  · have h := h.1 hc
    exact hQ _ _ _ hF hL h
  · have h := h.2 hc
    refine ⟨h.1, ?_⟩
    have h := h.2
    refine ⟨h.1, ?_⟩
    have h := h.2
    refine ⟨fun hc => ?_, fun hc => ?_⟩
    · have h := h.1 hc
      exact mnX6_contradictsEarlier_b41 hQ hP2 hF hL h
    · have h := h.2 hc
      refine ⟨h.1, ?_⟩
      have h := h.2
      refine ⟨h.1, ?_⟩
      have h := h.2
      refine ⟨fun hc => ?_, fun hc => ?_⟩
      · have h := h.1 hc
        exact mnX6_contradictsEarlier_b41 hQ hP2 hF hL h
      · have h := h.2 hc
        exact mnX6_contradictsEarlier_b42 hQ hP2 hF hL h
set_option maxRecDepth 10000 in
theorem mnX6_contradictsEarlier_h2 {I0 : Ix} {L0 : Lx} {Q Q' : Bool → Ix → Lx → Prop} (hQ : ∀ (r : Bool) (I1 : Ix) (L1 : Lx), FrI (wsI_X6_contradictsEarlier) (fsI_X6_contradictsEarlier) I0 I1 → FrL (wsL_X6_contradictsEarlier) (fsL_X6_contradictsEarlier) L0 L1 → Q r I1 L1 → Q' r I1 L1) {v1 : Int32} {v2 : Int32} {v3 : Int32} {I : Ix} {L : Lx} (hF : FrI (wsI_X6_contradictsEarlier) (fsI_X6_contradictsEarlier) I0 I) (hL : FrL (wsL_X6_contradictsEarlier) (fsL_X6_contradictsEarlier) L0 L) (h : wpX6_contradictsEarlier_h2 Q v1 v2 v3 I L) : wpX6_contradictsEarlier_h2 Q' v1 v2 v3 I L := by
  unfold wpX6_contradictsEarlier_h2 at h
  refine Lfp.ind (P := fun z => FrI (wsI_X6_contradictsEarlier) (fsI_X6_contradictsEarlier) I0 z.2.2.2.1 → FrL (wsL_X6_contradictsEarlier) (fsL_X6_contradictsEarlier) L0 z.2.2.2.2 → wpX6_contradictsEarlier_h2 Q' z.1 z.2.1 z.2.2.1 z.2.2.2.1 z.2.2.2.2) ?_ h hF hL
  intro z P' hP' h hF hL
  obtain ⟨v1, v2, v3, I, L⟩ := z
  exact wpX6_contradictsEarlier_h2_fold (mnX6_contradictsEarlier_l2 hQ (fun v1 v2 v3 I L hF hL h9 => hP' (v1, v2, v3, I, L) h9 hF hL) hF hL h)
set_option maxRecDepth 10000 in
theorem mnX6_contradictsEarlier {a1 : Int32} {a2 : Int32} {I : Ix} {L : Lx} {Q Q' : Bool → Ix → Lx → Prop} (hQ : ∀ (r : Bool) (I1 : Ix) (L1 : Lx), FrI (wsI_X6_contradictsEarlier) (fsI_X6_contradictsEarlier) I I1 → FrL (wsL_X6_contradictsEarlier) (fsL_X6_contradictsEarlier) L L1 → Q r I1 L1 → Q' r I1 L1) (h : wpX6_contradictsEarlier a1 a2 I L Q) : wpX6_contradictsEarlier a1 a2 I L Q' := by
  have hF : FrI (wsI_X6_contradictsEarlier) (fsI_X6_contradictsEarlier) I I := FrI.rf
  have hL : FrL (wsL_X6_contradictsEarlier) (fsL_X6_contradictsEarlier) L L := FrL.rf
  unfold wpX6_contradictsEarlier at h ⊢
  exact mnX6_contradictsEarlier_h2 hQ hF hL h
abbrev wsI_X6_firstDouble : List Nat := []
abbrev wsL_X6_firstDouble : List Nat := []
abbrev fsI_X6_firstDouble : List (Nat × Nat) := []
abbrev fsL_X6_firstDouble : List (Nat × Nat) := []
set_option maxRecDepth 10000 in
theorem mnX6_firstDouble_l2 {I0 : Ix} {L0 : Lx} {Q Q' : Int32 → Ix → Lx → Prop} {P2 P2' : Int32 → Int32 → Ix → Lx → Prop} (hQ : ∀ (r : Int32) (I1 : Ix) (L1 : Lx), FrI (wsI_X6_firstDouble) (fsI_X6_firstDouble) I0 I1 → FrL (wsL_X6_firstDouble) (fsL_X6_firstDouble) L0 L1 → Q r I1 L1 → Q' r I1 L1) (hP2 : ∀ (v1 : Int32) (v2 : Int32) (I1 : Ix) (L1 : Lx), FrI (wsI_X6_firstDouble) (fsI_X6_firstDouble) I0 I1 → FrL (wsL_X6_firstDouble) (fsL_X6_firstDouble) L0 L1 → P2 v1 v2 I1 L1 → P2' v1 v2 I1 L1) {v1 : Int32} {v2 : Int32} {I : Ix} {L : Lx} (hF : FrI (wsI_X6_firstDouble) (fsI_X6_firstDouble) I0 I) (hL : FrL (wsL_X6_firstDouble) (fsL_X6_firstDouble) L0 L) (h : wpX6_firstDouble_l2 Q P2 v1 v2 I L) : wpX6_firstDouble_l2 Q' P2' v1 v2 I L := by
  unfold wpX6_firstDouble_l2 at h ⊢
  refine ⟨fun hc => ?_, fun hc => ?_⟩
  · have h := h.1 hc
    exact hQ _ _ _ hF hL h
  · have h := h.2 hc
    refine mnX6_counts (fun r3 I1 L2 hf hl h => ?_) h
    have hF := hF.tr hf (by decide) (by decide)
    have hL := hL.tr hl (by decide) (by decide)
    refine ⟨fun hc => ?_, fun hc => ?_⟩
    · have h := h.1 hc
      exact hP2 _ _ _ _ hF hL h
    · have h := h.2 hc
      refine mnX6_contradictsEarlier (fun r6 I4 L5 hf hl h => ?_) h
      have hF := hF.tr hf (by decide) (by decide)
      have hL := hL.tr hl (by decide) (by decide)
      refine ⟨fun hc => ?_, fun hc => ?_⟩
      · have h := h.1 hc
        exact hP2 _ _ _ _ hF hL h
      · have h := h.2 hc
        exact hQ _ _ _ hF hL h
set_option maxRecDepth 10000 in
theorem mnX6_firstDouble_h2 {I0 : Ix} {L0 : Lx} {Q Q' : Int32 → Ix → Lx → Prop} (hQ : ∀ (r : Int32) (I1 : Ix) (L1 : Lx), FrI (wsI_X6_firstDouble) (fsI_X6_firstDouble) I0 I1 → FrL (wsL_X6_firstDouble) (fsL_X6_firstDouble) L0 L1 → Q r I1 L1 → Q' r I1 L1) {v1 : Int32} {v2 : Int32} {I : Ix} {L : Lx} (hF : FrI (wsI_X6_firstDouble) (fsI_X6_firstDouble) I0 I) (hL : FrL (wsL_X6_firstDouble) (fsL_X6_firstDouble) L0 L) (h : wpX6_firstDouble_h2 Q v1 v2 I L) : wpX6_firstDouble_h2 Q' v1 v2 I L := by
  unfold wpX6_firstDouble_h2 at h
  refine Lfp.ind (P := fun z => FrI (wsI_X6_firstDouble) (fsI_X6_firstDouble) I0 z.2.2.1 → FrL (wsL_X6_firstDouble) (fsL_X6_firstDouble) L0 z.2.2.2 → wpX6_firstDouble_h2 Q' z.1 z.2.1 z.2.2.1 z.2.2.2) ?_ h hF hL
  intro z P' hP' h hF hL
  obtain ⟨v1, v2, I, L⟩ := z
  exact wpX6_firstDouble_h2_fold (mnX6_firstDouble_l2 hQ (fun v1 v2 I L hF hL h9 => hP' (v1, v2, I, L) h9 hF hL) hF hL h)
set_option maxRecDepth 10000 in
theorem mnX6_firstDouble {a1 : Int32} {I : Ix} {L : Lx} {Q Q' : Int32 → Ix → Lx → Prop} (hQ : ∀ (r : Int32) (I1 : Ix) (L1 : Lx), FrI (wsI_X6_firstDouble) (fsI_X6_firstDouble) I I1 → FrL (wsL_X6_firstDouble) (fsL_X6_firstDouble) L L1 → Q r I1 L1 → Q' r I1 L1) (h : wpX6_firstDouble a1 I L Q) : wpX6_firstDouble a1 I L Q' := by
  have hF : FrI (wsI_X6_firstDouble) (fsI_X6_firstDouble) I I := FrI.rf
  have hL : FrL (wsL_X6_firstDouble) (fsL_X6_firstDouble) L L := FrL.rf
  unfold wpX6_firstDouble at h ⊢
  exact mnX6_firstDouble_h2 hQ hF hL h
abbrev wsI_X11_judge : List Nat := []
abbrev wsL_X11_judge : List Nat := []
abbrev fsI_X11_judge : List (Nat × Nat) := []
abbrev fsL_X11_judge : List (Nat × Nat) := []
set_option maxRecDepth 10000 in
theorem mnX11_judge {a1 : Int32} {a2 : Int32} {I : Ix} {L : Lx} {Q Q' : Int32 → Ix → Lx → Prop} (hQ : ∀ (r : Int32) (I1 : Ix) (L1 : Lx), FrI (wsI_X11_judge) (fsI_X11_judge) I I1 → FrL (wsL_X11_judge) (fsL_X11_judge) L L1 → Q r I1 L1 → Q' r I1 L1) (h : wpX11_judge a1 a2 I L Q) : wpX11_judge a1 a2 I L Q' := by
  have hF : FrI (wsI_X11_judge) (fsI_X11_judge) I I := FrI.rf
  have hL : FrL (wsL_X11_judge) (fsL_X11_judge) L L := FrL.rf
  unfold wpX11_judge at h ⊢
  refine ⟨fun hc => ?_, fun hc => ?_, fun hc => ?_, fun hc => ?_, ?_⟩
  · have h := h.1 hc
    refine mnX6_countFalse (fun r3 I1 L2 hf hl h => ?_) h
    have hF := hF.tr hf (by decide) (by decide)
    have hL := hL.tr hl (by decide) (by decide)
    exact hQ _ _ _ hF hL h
  · have h := h.2.1 hc
    refine mnX6_countOpen (fun r6 I4 L5 hf hl h => ?_) h
    have hF := hF.tr hf (by decide) (by decide)
    have hL := hL.tr hl (by decide) (by decide)
    exact hQ _ _ _ hF hL h
  · have h := h.2.2.1 hc
    refine mnX6_firstFalse (fun r9 I7 L8 hf hl h => ?_) h
    have hF := hF.tr hf (by decide) (by decide)
    have hL := hL.tr hl (by decide) (by decide)
    exact hQ _ _ _ hF hL h
  · have h := h.2.2.2.1 hc
    refine mnX6_firstDouble (fun r12 I10 L11 hf hl h => ?_) h
    have hF := hF.tr hf (by decide) (by decide)
    have hL := hL.tr hl (by decide) (by decide)
    exact hQ _ _ _ hF hL h
  · intro e0 e1 e2 e3
    have h := h.2.2.2.2 e0 e1 e2 e3
    exact hQ _ _ _ hF hL h
abbrev wsI_X11_seed : List Nat := []
abbrev wsL_X11_seed : List Nat := []
abbrev fsI_X11_seed : List (Nat × Nat) := [(53, 2)]
abbrev fsL_X11_seed : List (Nat × Nat) := []
set_option maxRecDepth 10000 in
theorem mnX11_seed {a1 : Int32} {I : Ix} {L : Lx} {Q Q' : Int32 → Ix → Lx → Prop} (hQ : ∀ (r : Int32) (I1 : Ix) (L1 : Lx), FrI (wsI_X11_seed) (fsI_X11_seed) I I1 → FrL (wsL_X11_seed) (fsL_X11_seed) L L1 → Q r I1 L1 → Q' r I1 L1) (h : wpX11_seed a1 I L Q) : wpX11_seed a1 I L Q' := by
  have hF : FrI (wsI_X11_seed) (fsI_X11_seed) I I := FrI.rf
  have hL : FrL (wsL_X11_seed) (fsL_X11_seed) L L := FrL.rf
  unfold wpX11_seed at h ⊢
  intro I1 eI1
  have h := h I1 eI1
  have hF := hF.pf eI1 (by decide)
  exact hQ _ _ _ hF hL h
abbrev wsI_X11_image : List Nat := [92, 99, 108, 117, 100, 109, 118, 101, 110, 119, 98, 107, 116, 94, 103, 112, 95, 104, 113, 96, 105, 114, 97, 106, 115]
abbrev wsL_X11_image : List Nat := []
abbrev fsI_X11_image : List (Nat × Nat) := [(93, 0), (102, 0), (111, 0), (93, 1), (102, 1), (111, 1), (93, 2), (102, 2), (111, 2)]
abbrev fsL_X11_image : List (Nat × Nat) := []
theorem boxsub {i : Int32} (h : vp_in i 3) : (∀ k ∈ wsI_X2_copyFrom (93 + 9 * i.toNatClampNeg) 53, k ∈ wsI_X11_image) ∧ (∀ q ∈ fsI_X2_copyFrom (93 + 9 * i.toNatClampNeg) 53, q ∈ fsI_X11_image) := by
  obtain ⟨j, hj, rfl⟩ := vp_in_of h (by decide)
  rw [nI_clamp (by omega)]
  refine ⟨fun k hk => ?_, fun q hq => ?_⟩
  · simp only [List.mem_cons, List.not_mem_nil, or_false] at hk ⊢
    omega
  · obtain ⟨k, l⟩ := q
    simp only [List.mem_cons, List.not_mem_nil, or_false, Prod.mk.injEq] at hq ⊢
    omega
set_option maxRecDepth 10000 in
theorem mnX11_image {a1 : Int32} {I : Ix} {L : Lx} {Q Q' : Int32 → Ix → Lx → Prop} (hQ : ∀ (r : Int32) (I1 : Ix) (L1 : Lx), FrI (wsI_X11_image) (fsI_X11_image) I I1 → FrL (wsL_X11_image) (fsL_X11_image) L L1 → Q r I1 L1 → Q' r I1 L1) (h : wpX11_image a1 I L Q) : wpX11_image a1 I L Q' := by
  have hF : FrI (wsI_X11_image) (fsI_X11_image) I I := FrI.rf
  have hL : FrL (wsL_X11_image) (fsL_X11_image) L L := FrL.rf
  unfold wpX11_image at h ⊢
  refine ⟨fun hc => ?_, fun hc => ?_⟩
  · have h := h.1 hc
    exact hQ _ _ _ hF hL h
  · have h := h.2 hc
    refine ⟨fun hc => ?_, fun hc => ?_⟩
    · have h := h.1 hc
      have hb9 := h.1
      refine ⟨h.1, ?_⟩
      have h := h.2
      refine mnX2_copyFrom (fun I2 L3 hf hl h => ?_) h
      have hF := hF.tr hf (boxsub hb9).1 (boxsub hb9).2
      have hL := hL.tr hl (by intro k hk; simp at hk) (by intro k hk; simp at hk)
      refine ⟨h.1, ?_⟩
      have h := h.2
      intro I4 eI4
      have h := h I4 eI4
      have hF := hF.pw eI4 (by decide)
      exact hQ _ _ _ hF hL h
    · have h := h.2 hc
      exact hQ _ _ _ hF hL h
abbrev wsI_X11_back : List Nat := [59, 60, 61, 58, 54, 55, 56, 57]
abbrev wsL_X11_back : List Nat := []
abbrev fsI_X11_back : List (Nat × Nat) := [(53, 0), (53, 1), (53, 2)]
abbrev fsL_X11_back : List (Nat × Nat) := []
set_option maxRecDepth 10000 in
theorem mnX11_back {a1 : Int32} {I : Ix} {L : Lx} {Q Q' : Int32 → Ix → Lx → Prop} (hQ : ∀ (r : Int32) (I1 : Ix) (L1 : Lx), FrI (wsI_X11_back) (fsI_X11_back) I I1 → FrL (wsL_X11_back) (fsL_X11_back) L L1 → Q r I1 L1 → Q' r I1 L1) (h : wpX11_back a1 I L Q) : wpX11_back a1 I L Q' := by
  have hF : FrI (wsI_X11_back) (fsI_X11_back) I I := FrI.rf
  have hL : FrL (wsL_X11_back) (fsL_X11_back) L L := FrL.rf
  unfold wpX11_back at h ⊢
  refine ⟨fun hc => ?_, fun hc => ?_⟩
  · have h := h.1 hc
    exact hQ _ _ _ hF hL h
  · have h := h.2 hc
    refine ⟨fun hc => ?_, fun hc => ?_⟩
    · have h := h.1 hc
      exact hQ _ _ _ hF hL h
    · have h := h.2 hc
      refine ⟨h.1, ?_⟩
      have h := h.2
      refine ⟨fun hc => ?_, fun hc => ?_⟩
      · have h := h.1 hc
        have hb9 := h.1
        refine ⟨h.1, ?_⟩
        have h := h.2
        refine mnX2_copyFrom (fun I2 L3 hf hl h => ?_) h
        have hF := hF.tr hf (by intro k hk; first | (simp only [List.mem_cons, List.not_mem_nil, or_false] at hk ⊢; omega) | (simp at hk; done)) (by intro q hq; obtain ⟨k, j⟩ := q; first | (simp only [List.mem_cons, List.not_mem_nil, or_false, Prod.mk.injEq] at hq ⊢; omega) | (simp at hq; done))
        have hL := hL.tr hl (by intro k hk; first | (simp only [List.mem_cons, List.not_mem_nil, or_false] at hk ⊢; omega) | (simp at hk; done)) (by intro q hq; obtain ⟨k, j⟩ := q; first | (simp only [List.mem_cons, List.not_mem_nil, or_false, Prod.mk.injEq] at hq ⊢; omega) | (simp at hq; done))
        exact hQ _ _ _ hF hL h
      · have h := h.2 hc
        exact hQ _ _ _ hF hL h
abbrev wsI_X11_about : List Nat := []
abbrev wsL_X11_about : List Nat := []
abbrev fsI_X11_about : List (Nat × Nat) := []
abbrev fsL_X11_about : List (Nat × Nat) := []
set_option maxRecDepth 10000 in
theorem mnX11_about {a1 : Int32} {I : Ix} {L : Lx} {Q Q' : Int32 → Ix → Lx → Prop} (hQ : ∀ (r : Int32) (I1 : Ix) (L1 : Lx), FrI (wsI_X11_about) (fsI_X11_about) I I1 → FrL (wsL_X11_about) (fsL_X11_about) L L1 → Q r I1 L1 → Q' r I1 L1) (h : wpX11_about a1 I L Q) : wpX11_about a1 I L Q' := by
  have hF : FrI (wsI_X11_about) (fsI_X11_about) I I := FrI.rf
  have hL : FrL (wsL_X11_about) (fsL_X11_about) L L := FrL.rf
  unfold wpX11_about at h ⊢
  refine ⟨fun hc => ?_, fun hc => ?_, fun hc => ?_, fun hc => ?_, fun hc => ?_, fun hc => ?_, fun hc => ?_, fun hc => ?_, fun hc => ?_, fun hc => ?_, fun hc => ?_, ?_⟩
  · have h := h.1 hc
    exact hQ _ _ _ hF hL h
  · have h := h.2.1 hc
    exact hQ _ _ _ hF hL h
  · have h := h.2.2.1 hc
    exact hQ _ _ _ hF hL h
  · have h := h.2.2.2.1 hc
    exact hQ _ _ _ hF hL h
  · have h := h.2.2.2.2.1 hc
    exact hQ _ _ _ hF hL h
  · have h := h.2.2.2.2.2.1 hc
    exact hQ _ _ _ hF hL h
  · have h := h.2.2.2.2.2.2.1 hc
    exact hQ _ _ _ hF hL h
  · have h := h.2.2.2.2.2.2.2.1 hc
    exact hQ _ _ _ hF hL h
  · have h := h.2.2.2.2.2.2.2.2.1 hc
    exact hQ _ _ _ hF hL h
  · have h := h.2.2.2.2.2.2.2.2.2.1 hc
    exact hQ _ _ _ hF hL h
  · have h := h.2.2.2.2.2.2.2.2.2.2.1 hc
    exact hQ _ _ _ hF hL h
  · intro e0 e1 e2 e3 e4 e5 e6 e7 e8 e9 e10
    have h := h.2.2.2.2.2.2.2.2.2.2.2 e0 e1 e2 e3 e4 e5 e6 e7 e8 e9 e10
    exact hQ _ _ _ hF hL h
abbrev wsI_X12_four : List Nat := [121]
abbrev wsL_X12_four : List Nat := []
abbrev fsI_X12_four : List (Nat × Nat) := [(120, 1)]
abbrev fsL_X12_four : List (Nat × Nat) := []
set_option maxRecDepth 10000 in
theorem mnX12_four_l3 {I0 : Ix} {L0 : Lx} {Q Q' : Ix → Lx → Prop} {P3 P3' : Int32 → Int32 → Ix → Lx → Prop} (hQ : ∀ (I1 : Ix) (L1 : Lx), FrI (wsI_X12_four) (fsI_X12_four) I0 I1 → FrL (wsL_X12_four) (fsL_X12_four) L0 L1 → Q I1 L1 → Q' I1 L1) (hP3 : ∀ (v1 : Int32) (v2 : Int32) (I1 : Ix) (L1 : Lx), FrI (wsI_X12_four) (fsI_X12_four) I0 I1 → FrL (wsL_X12_four) (fsL_X12_four) L0 L1 → P3 v1 v2 I1 L1 → P3' v1 v2 I1 L1) {v1 : Int32} {v2 : Int32} {I : Ix} {L : Lx} (hF : FrI (wsI_X12_four) (fsI_X12_four) I0 I) (hL : FrL (wsL_X12_four) (fsL_X12_four) L0 L) (h : wpX12_four_l3 Q P3 v1 v2 I L) : wpX12_four_l3 Q' P3' v1 v2 I L := by
  unfold wpX12_four_l3 at h ⊢
  refine ⟨fun hc => ?_, fun hc => ?_⟩
  · have h := h.1 hc
    exact hQ _ _ hF hL h
  · have h := h.2 hc
    refine ⟨h.1, ?_⟩
    have h := h.2
    intro I1 eI1
    have h := h I1 eI1
    have hF := hF.pw eI1 (by decide)
    intro I2 eI2
    have h := h I2 eI2
    have hF := hF.pf eI2 (by decide)
    exact hP3 _ _ _ _ hF hL h
set_option maxRecDepth 10000 in
theorem mnX12_four_h3 {I0 : Ix} {L0 : Lx} {Q Q' : Ix → Lx → Prop} (hQ : ∀ (I1 : Ix) (L1 : Lx), FrI (wsI_X12_four) (fsI_X12_four) I0 I1 → FrL (wsL_X12_four) (fsL_X12_four) L0 L1 → Q I1 L1 → Q' I1 L1) {v1 : Int32} {v2 : Int32} {I : Ix} {L : Lx} (hF : FrI (wsI_X12_four) (fsI_X12_four) I0 I) (hL : FrL (wsL_X12_four) (fsL_X12_four) L0 L) (h : wpX12_four_h3 Q v1 v2 I L) : wpX12_four_h3 Q' v1 v2 I L := by
  unfold wpX12_four_h3 at h
  refine Lfp.ind (P := fun z => FrI (wsI_X12_four) (fsI_X12_four) I0 z.2.2.1 → FrL (wsL_X12_four) (fsL_X12_four) L0 z.2.2.2 → wpX12_four_h3 Q' z.1 z.2.1 z.2.2.1 z.2.2.2) ?_ h hF hL
  intro z P' hP' h hF hL
  obtain ⟨v1, v2, I, L⟩ := z
  exact wpX12_four_h3_fold (mnX12_four_l3 hQ (fun v1 v2 I L hF hL h9 => hP' (v1, v2, I, L) h9 hF hL) hF hL h)
set_option maxRecDepth 10000 in
theorem mnX12_four {a1 : Int32} {I : Ix} {L : Lx} {Q Q' : Ix → Lx → Prop} (hQ : ∀ (I1 : Ix) (L1 : Lx), FrI (wsI_X12_four) (fsI_X12_four) I I1 → FrL (wsL_X12_four) (fsL_X12_four) L L1 → Q I1 L1 → Q' I1 L1) (h : wpX12_four a1 I L Q) : wpX12_four a1 I L Q' := by
  have hF : FrI (wsI_X12_four) (fsI_X12_four) I I := FrI.rf
  have hL : FrL (wsL_X12_four) (fsL_X12_four) L L := FrL.rf
  unfold wpX12_four at h ⊢
  exact mnX12_four_h3 hQ hF hL h
abbrev wsI_X12_feed : List Nat := [121]
abbrev wsL_X12_feed : List Nat := []
abbrev fsI_X12_feed : List (Nat × Nat) := [(120, 1)]
abbrev fsL_X12_feed : List (Nat × Nat) := []
set_option maxRecDepth 10000 in
theorem mnX12_feed {a1 : Int32} {a2 : Int32} {a3 : Int32} {a4 : Int32} {a5 : Int32} {I : Ix} {L : Lx} {Q Q' : Int32 → Ix → Lx → Prop} (hQ : ∀ (r : Int32) (I1 : Ix) (L1 : Lx), FrI (wsI_X12_feed) (fsI_X12_feed) I I1 → FrL (wsL_X12_feed) (fsL_X12_feed) L L1 → Q r I1 L1 → Q' r I1 L1) (h : wpX12_feed a1 a2 a3 a4 a5 I L Q) : wpX12_feed a1 a2 a3 a4 a5 I L Q' := by
  have hF : FrI (wsI_X12_feed) (fsI_X12_feed) I I := FrI.rf
  have hL : FrL (wsL_X12_feed) (fsL_X12_feed) L L := FrL.rf
  unfold wpX12_feed at h ⊢
  refine ⟨fun hc => ?_, fun hc => ?_⟩
  · have h := h.1 hc
    refine mnX12_four (fun I1 L2 hf hl h => ?_) h
    have hF := hF.tr hf (by decide) (by decide)
    have hL := hL.tr hl (by decide) (by decide)
    refine mnX12_four (fun I3 L4 hf hl h => ?_) h
    have hF := hF.tr hf (by decide) (by decide)
    have hL := hL.tr hl (by decide) (by decide)
    refine mnX12_four (fun I5 L6 hf hl h => ?_) h
    have hF := hF.tr hf (by decide) (by decide)
    have hL := hL.tr hl (by decide) (by decide)
    refine mnX12_four (fun I7 L8 hf hl h => ?_) h
    have hF := hF.tr hf (by decide) (by decide)
    have hL := hL.tr hl (by decide) (by decide)
    refine mnX12_four (fun I9 L10 hf hl h => ?_) h
    have hF := hF.tr hf (by decide) (by decide)
    have hL := hL.tr hl (by decide) (by decide)
    exact hQ _ _ _ hF hL h
  · have h := h.2 hc
    exact hQ _ _ _ hF hL h
abbrev wsI_X12_end : List Nat := []
abbrev wsL_X12_end : List Nat := []
abbrev fsI_X12_end : List (Nat × Nat) := [(120, 1)]
abbrev fsL_X12_end : List (Nat × Nat) := []
set_option maxRecDepth 10000 in
theorem mnX12_end {a1 : Int32} {I : Ix} {L : Lx} {Q Q' : Int32 → Ix → Lx → Prop} (hQ : ∀ (r : Int32) (I1 : Ix) (L1 : Lx), FrI (wsI_X12_end) (fsI_X12_end) I I1 → FrL (wsL_X12_end) (fsL_X12_end) L L1 → Q r I1 L1 → Q' r I1 L1) (h : wpX12_end a1 I L Q) : wpX12_end a1 I L Q' := by
  have hF : FrI (wsI_X12_end) (fsI_X12_end) I I := FrI.rf
  have hL : FrL (wsL_X12_end) (fsL_X12_end) L L := FrL.rf
  unfold wpX12_end at h ⊢
  refine ⟨fun hc => ?_, fun hc => ?_⟩
  · have h := h.1 hc
    exact hQ _ _ _ hF hL h
  · have h := h.2 hc
    refine ⟨fun hc => ?_, fun hc => ?_⟩
    · have h := h.1 hc
      intro I1 eI1
      have h := h I1 eI1
      have hF := hF.pf eI1 (by decide)
      exact hQ _ _ _ hF hL h
    · have h := h.2 hc
      exact hQ _ _ _ hF hL h
abbrev wsI_X12_layFar : List Nat := [140]
abbrev wsL_X12_layFar : List Nat := []
abbrev fsI_X12_layFar : List (Nat × Nat) := []
abbrev fsL_X12_layFar : List (Nat × Nat) := []
set_option maxRecDepth 10000 in
theorem mnX12_layFar_l76 {I0 : Ix} {L0 : Lx} {Q Q' : Ix → Lx → Prop} {P56 P56' : Int32 → Ix → Lx → Prop} {P66 P66' : Int32 → Int32 → Ix → Lx → Prop} {P76 P76' : Int32 → Int32 → Int32 → Ix → Lx → Prop} (hQ : ∀ (I1 : Ix) (L1 : Lx), FrI (wsI_X12_layFar) (fsI_X12_layFar) I0 I1 → FrL (wsL_X12_layFar) (fsL_X12_layFar) L0 L1 → Q I1 L1 → Q' I1 L1) (hP56 : ∀ (v1 : Int32) (I1 : Ix) (L1 : Lx), FrI (wsI_X12_layFar) (fsI_X12_layFar) I0 I1 → FrL (wsL_X12_layFar) (fsL_X12_layFar) L0 L1 → P56 v1 I1 L1 → P56' v1 I1 L1) (hP66 : ∀ (v1 : Int32) (v2 : Int32) (I1 : Ix) (L1 : Lx), FrI (wsI_X12_layFar) (fsI_X12_layFar) I0 I1 → FrL (wsL_X12_layFar) (fsL_X12_layFar) L0 L1 → P66 v1 v2 I1 L1 → P66' v1 v2 I1 L1) (hP76 : ∀ (v1 : Int32) (v2 : Int32) (v3 : Int32) (I1 : Ix) (L1 : Lx), FrI (wsI_X12_layFar) (fsI_X12_layFar) I0 I1 → FrL (wsL_X12_layFar) (fsL_X12_layFar) L0 L1 → P76 v1 v2 v3 I1 L1 → P76' v1 v2 v3 I1 L1) {v1 : Int32} {v2 : Int32} {v3 : Int32} {I : Ix} {L : Lx} (hF : FrI (wsI_X12_layFar) (fsI_X12_layFar) I0 I) (hL : FrL (wsL_X12_layFar) (fsL_X12_layFar) L0 L) (h : wpX12_layFar_l76 Q P56 P66 P76 v1 v2 v3 I L) : wpX12_layFar_l76 Q' P56' P66' P76' v1 v2 v3 I L := by
  unfold wpX12_layFar_l76 at h ⊢
  refine ⟨fun hc => ?_, fun hc => ?_⟩
  · have h := h.1 hc
    exact hP66 _ _ _ _ hF hL h
  · have h := h.2 hc
    refine ⟨h.1, ?_⟩
    have h := h.2
    refine ⟨h.1, ?_⟩
    have h := h.2
    refine ⟨h.1, ?_⟩
    have h := h.2
    refine ⟨fun hc => ?_, fun hc => ?_⟩
    · have h := h.1 hc
      exact hP76 _ _ _ _ _ hF hL h
    · have h := h.2 hc
      refine ⟨h.1, ?_⟩
      have h := h.2
      intro I1 eI1
      have h := h I1 eI1
      have hF := hF.pw eI1 (by decide)
      exact hP76 _ _ _ _ _ hF hL h
set_option maxRecDepth 10000 in
theorem mnX12_layFar_h76 {I0 : Ix} {L0 : Lx} {Q Q' : Ix → Lx → Prop} {P56 P56' : Int32 → Ix → Lx → Prop} {P66 P66' : Int32 → Int32 → Ix → Lx → Prop} (hQ : ∀ (I1 : Ix) (L1 : Lx), FrI (wsI_X12_layFar) (fsI_X12_layFar) I0 I1 → FrL (wsL_X12_layFar) (fsL_X12_layFar) L0 L1 → Q I1 L1 → Q' I1 L1) (hP56 : ∀ (v1 : Int32) (I1 : Ix) (L1 : Lx), FrI (wsI_X12_layFar) (fsI_X12_layFar) I0 I1 → FrL (wsL_X12_layFar) (fsL_X12_layFar) L0 L1 → P56 v1 I1 L1 → P56' v1 I1 L1) (hP66 : ∀ (v1 : Int32) (v2 : Int32) (I1 : Ix) (L1 : Lx), FrI (wsI_X12_layFar) (fsI_X12_layFar) I0 I1 → FrL (wsL_X12_layFar) (fsL_X12_layFar) L0 L1 → P66 v1 v2 I1 L1 → P66' v1 v2 I1 L1) {v1 : Int32} {v2 : Int32} {v3 : Int32} {I : Ix} {L : Lx} (hF : FrI (wsI_X12_layFar) (fsI_X12_layFar) I0 I) (hL : FrL (wsL_X12_layFar) (fsL_X12_layFar) L0 L) (h : wpX12_layFar_h76 Q P56 P66 v1 v2 v3 I L) : wpX12_layFar_h76 Q' P56' P66' v1 v2 v3 I L := by
  unfold wpX12_layFar_h76 at h
  refine Lfp.ind (P := fun z => FrI (wsI_X12_layFar) (fsI_X12_layFar) I0 z.2.2.2.1 → FrL (wsL_X12_layFar) (fsL_X12_layFar) L0 z.2.2.2.2 → wpX12_layFar_h76 Q' P56' P66' z.1 z.2.1 z.2.2.1 z.2.2.2.1 z.2.2.2.2) ?_ h hF hL
  intro z P' hP' h hF hL
  obtain ⟨v1, v2, v3, I, L⟩ := z
  exact wpX12_layFar_h76_fold (mnX12_layFar_l76 hQ hP56 hP66 (fun v1 v2 v3 I L hF hL h9 => hP' (v1, v2, v3, I, L) h9 hF hL) hF hL h)
set_option maxRecDepth 10000 in
theorem mnX12_layFar_l66 {I0 : Ix} {L0 : Lx} {Q Q' : Ix → Lx → Prop} {P56 P56' : Int32 → Ix → Lx → Prop} {P66 P66' : Int32 → Int32 → Ix → Lx → Prop} (hQ : ∀ (I1 : Ix) (L1 : Lx), FrI (wsI_X12_layFar) (fsI_X12_layFar) I0 I1 → FrL (wsL_X12_layFar) (fsL_X12_layFar) L0 L1 → Q I1 L1 → Q' I1 L1) (hP56 : ∀ (v1 : Int32) (I1 : Ix) (L1 : Lx), FrI (wsI_X12_layFar) (fsI_X12_layFar) I0 I1 → FrL (wsL_X12_layFar) (fsL_X12_layFar) L0 L1 → P56 v1 I1 L1 → P56' v1 I1 L1) (hP66 : ∀ (v1 : Int32) (v2 : Int32) (I1 : Ix) (L1 : Lx), FrI (wsI_X12_layFar) (fsI_X12_layFar) I0 I1 → FrL (wsL_X12_layFar) (fsL_X12_layFar) L0 L1 → P66 v1 v2 I1 L1 → P66' v1 v2 I1 L1) {v1 : Int32} {v2 : Int32} {I : Ix} {L : Lx} (hF : FrI (wsI_X12_layFar) (fsI_X12_layFar) I0 I) (hL : FrL (wsL_X12_layFar) (fsL_X12_layFar) L0 L) (h : wpX12_layFar_l66 Q P56 P66 v1 v2 I L) : wpX12_layFar_l66 Q' P56' P66' v1 v2 I L := by
  unfold wpX12_layFar_l66 at h ⊢
  refine ⟨fun hc => ?_, fun hc => ?_⟩
  · have h := h.1 hc
    exact hP56 _ _ _ hF hL h
  · have h := h.2 hc
    exact mnX12_layFar_h76 hQ hP56 hP66 hF hL h
set_option maxRecDepth 10000 in
theorem mnX12_layFar_h66 {I0 : Ix} {L0 : Lx} {Q Q' : Ix → Lx → Prop} {P56 P56' : Int32 → Ix → Lx → Prop} (hQ : ∀ (I1 : Ix) (L1 : Lx), FrI (wsI_X12_layFar) (fsI_X12_layFar) I0 I1 → FrL (wsL_X12_layFar) (fsL_X12_layFar) L0 L1 → Q I1 L1 → Q' I1 L1) (hP56 : ∀ (v1 : Int32) (I1 : Ix) (L1 : Lx), FrI (wsI_X12_layFar) (fsI_X12_layFar) I0 I1 → FrL (wsL_X12_layFar) (fsL_X12_layFar) L0 L1 → P56 v1 I1 L1 → P56' v1 I1 L1) {v1 : Int32} {v2 : Int32} {I : Ix} {L : Lx} (hF : FrI (wsI_X12_layFar) (fsI_X12_layFar) I0 I) (hL : FrL (wsL_X12_layFar) (fsL_X12_layFar) L0 L) (h : wpX12_layFar_h66 Q P56 v1 v2 I L) : wpX12_layFar_h66 Q' P56' v1 v2 I L := by
  unfold wpX12_layFar_h66 at h
  refine Lfp.ind (P := fun z => FrI (wsI_X12_layFar) (fsI_X12_layFar) I0 z.2.2.1 → FrL (wsL_X12_layFar) (fsL_X12_layFar) L0 z.2.2.2 → wpX12_layFar_h66 Q' P56' z.1 z.2.1 z.2.2.1 z.2.2.2) ?_ h hF hL
  intro z P' hP' h hF hL
  obtain ⟨v1, v2, I, L⟩ := z
  exact wpX12_layFar_h66_fold (mnX12_layFar_l66 hQ hP56 (fun v1 v2 I L hF hL h9 => hP' (v1, v2, I, L) h9 hF hL) hF hL h)
set_option maxRecDepth 10000 in
theorem mnX12_layFar_l56 {I0 : Ix} {L0 : Lx} {Q Q' : Ix → Lx → Prop} {P56 P56' : Int32 → Ix → Lx → Prop} (hQ : ∀ (I1 : Ix) (L1 : Lx), FrI (wsI_X12_layFar) (fsI_X12_layFar) I0 I1 → FrL (wsL_X12_layFar) (fsL_X12_layFar) L0 L1 → Q I1 L1 → Q' I1 L1) (hP56 : ∀ (v1 : Int32) (I1 : Ix) (L1 : Lx), FrI (wsI_X12_layFar) (fsI_X12_layFar) I0 I1 → FrL (wsL_X12_layFar) (fsL_X12_layFar) L0 L1 → P56 v1 I1 L1 → P56' v1 I1 L1) {v1 : Int32} {I : Ix} {L : Lx} (hF : FrI (wsI_X12_layFar) (fsI_X12_layFar) I0 I) (hL : FrL (wsL_X12_layFar) (fsL_X12_layFar) L0 L) (h : wpX12_layFar_l56 Q P56 v1 I L) : wpX12_layFar_l56 Q' P56' v1 I L := by
  unfold wpX12_layFar_l56 at h ⊢
  refine ⟨fun hc => ?_, fun hc => ?_⟩
  · have h := h.1 hc
    exact hQ _ _ hF hL h
  · have h := h.2 hc
    exact mnX12_layFar_h66 hQ hP56 hF hL h
set_option maxRecDepth 10000 in
theorem mnX12_layFar_h56 {I0 : Ix} {L0 : Lx} {Q Q' : Ix → Lx → Prop} (hQ : ∀ (I1 : Ix) (L1 : Lx), FrI (wsI_X12_layFar) (fsI_X12_layFar) I0 I1 → FrL (wsL_X12_layFar) (fsL_X12_layFar) L0 L1 → Q I1 L1 → Q' I1 L1) {v1 : Int32} {I : Ix} {L : Lx} (hF : FrI (wsI_X12_layFar) (fsI_X12_layFar) I0 I) (hL : FrL (wsL_X12_layFar) (fsL_X12_layFar) L0 L) (h : wpX12_layFar_h56 Q v1 I L) : wpX12_layFar_h56 Q' v1 I L := by
  unfold wpX12_layFar_h56 at h
  refine Lfp.ind (P := fun z => FrI (wsI_X12_layFar) (fsI_X12_layFar) I0 z.2.1 → FrL (wsL_X12_layFar) (fsL_X12_layFar) L0 z.2.2 → wpX12_layFar_h56 Q' z.1 z.2.1 z.2.2) ?_ h hF hL
  intro z P' hP' h hF hL
  obtain ⟨v1, I, L⟩ := z
  exact wpX12_layFar_h56_fold (mnX12_layFar_l56 hQ (fun v1 I L hF hL h9 => hP' (v1, I, L) h9 hF hL) hF hL h)
set_option maxRecDepth 10000 in
theorem mnX12_layFar_b47 {I0 : Ix} {L0 : Lx} {Q Q' : Ix → Lx → Prop} {P2 P2' : Int32 → Ix → Lx → Prop} (hQ : ∀ (I1 : Ix) (L1 : Lx), FrI (wsI_X12_layFar) (fsI_X12_layFar) I0 I1 → FrL (wsL_X12_layFar) (fsL_X12_layFar) L0 L1 → Q I1 L1 → Q' I1 L1) (hP2 : ∀ (v1 : Int32) (I1 : Ix) (L1 : Lx), FrI (wsI_X12_layFar) (fsI_X12_layFar) I0 I1 → FrL (wsL_X12_layFar) (fsL_X12_layFar) L0 L1 → P2 v1 I1 L1 → P2' v1 I1 L1) {v1 : Int32} {t1 : Int32} {t2 : Int32} {I : Ix} {L : Lx} (hF : FrI (wsI_X12_layFar) (fsI_X12_layFar) I0 I) (hL : FrL (wsL_X12_layFar) (fsL_X12_layFar) L0 L) (h : wpX12_layFar_b47 Q P2 v1 t1 t2 I L) : wpX12_layFar_b47 Q' P2' v1 t1 t2 I L := by
  unfold wpX12_layFar_b47 at h ⊢
  refine ⟨h.1, ?_⟩
  have h := h.2
  intro I1 eI1
  have h := h I1 eI1
  have hF := hF.pw eI1 (by decide)
  exact hP2 _ _ _ hF hL h
set_option maxRecDepth 10000 in
theorem mnX12_layFar_l2 {I0 : Ix} {L0 : Lx} {Q Q' : Ix → Lx → Prop} {P2 P2' : Int32 → Ix → Lx → Prop} (hQ : ∀ (I1 : Ix) (L1 : Lx), FrI (wsI_X12_layFar) (fsI_X12_layFar) I0 I1 → FrL (wsL_X12_layFar) (fsL_X12_layFar) L0 L1 → Q I1 L1 → Q' I1 L1) (hP2 : ∀ (v1 : Int32) (I1 : Ix) (L1 : Lx), FrI (wsI_X12_layFar) (fsI_X12_layFar) I0 I1 → FrL (wsL_X12_layFar) (fsL_X12_layFar) L0 L1 → P2 v1 I1 L1 → P2' v1 I1 L1) {v1 : Int32} {I : Ix} {L : Lx} (hF : FrI (wsI_X12_layFar) (fsI_X12_layFar) I0 I) (hL : FrL (wsL_X12_layFar) (fsL_X12_layFar) L0 L) (h : wpX12_layFar_l2 Q P2 v1 I L) : wpX12_layFar_l2 Q' P2' v1 I L := by
  unfold wpX12_layFar_l2 at h ⊢
  refine ⟨fun hc => ?_, fun hc => ?_⟩
  · have h := h.1 hc
    exact mnX12_layFar_h56 hQ hF hL h
  · have h := h.2 hc
    refine ⟨fun hc => ?_, fun hc => ?_⟩
    · have h := h.1 hc
      refine ⟨fun hc => ?_, fun hc => ?_⟩
      · have h := h.1 hc
        refine ⟨h.1, ?_⟩
        have h := h.2
        exact mnX12_layFar_b47 hQ hP2 hF hL h
      · have h := h.2 hc
        exact mnX12_layFar_b47 hQ hP2 hF hL h
    · have h := h.2 hc
      exact mnX12_layFar_b47 hQ hP2 hF hL h
set_option maxRecDepth 10000 in
theorem mnX12_layFar_h2 {I0 : Ix} {L0 : Lx} {Q Q' : Ix → Lx → Prop} (hQ : ∀ (I1 : Ix) (L1 : Lx), FrI (wsI_X12_layFar) (fsI_X12_layFar) I0 I1 → FrL (wsL_X12_layFar) (fsL_X12_layFar) L0 L1 → Q I1 L1 → Q' I1 L1) {v1 : Int32} {I : Ix} {L : Lx} (hF : FrI (wsI_X12_layFar) (fsI_X12_layFar) I0 I) (hL : FrL (wsL_X12_layFar) (fsL_X12_layFar) L0 L) (h : wpX12_layFar_h2 Q v1 I L) : wpX12_layFar_h2 Q' v1 I L := by
  unfold wpX12_layFar_h2 at h
  refine Lfp.ind (P := fun z => FrI (wsI_X12_layFar) (fsI_X12_layFar) I0 z.2.1 → FrL (wsL_X12_layFar) (fsL_X12_layFar) L0 z.2.2 → wpX12_layFar_h2 Q' z.1 z.2.1 z.2.2) ?_ h hF hL
  intro z P' hP' h hF hL
  obtain ⟨v1, I, L⟩ := z
  exact wpX12_layFar_h2_fold (mnX12_layFar_l2 hQ (fun v1 I L hF hL h9 => hP' (v1, I, L) h9 hF hL) hF hL h)
set_option maxRecDepth 10000 in
theorem mnX12_layFar {I : Ix} {L : Lx} {Q Q' : Ix → Lx → Prop} (hQ : ∀ (I1 : Ix) (L1 : Lx), FrI (wsI_X12_layFar) (fsI_X12_layFar) I I1 → FrL (wsL_X12_layFar) (fsL_X12_layFar) L L1 → Q I1 L1 → Q' I1 L1) (h : wpX12_layFar I L Q) : wpX12_layFar I L Q' := by
  have hF : FrI (wsI_X12_layFar) (fsI_X12_layFar) I I := FrI.rf
  have hL : FrL (wsL_X12_layFar) (fsL_X12_layFar) L L := FrL.rf
  unfold wpX12_layFar at h ⊢
  exact mnX12_layFar_h2 hQ hF hL h

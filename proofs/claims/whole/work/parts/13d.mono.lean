abbrev wsI_X12_hardOf : List Nat := []
abbrev wsL_X12_hardOf : List Nat := []
abbrev fsI_X12_hardOf : List (Nat × Nat) := []
abbrev fsL_X12_hardOf : List (Nat × Nat) := []
set_option maxRecDepth 10000 in
theorem mnX12_hardOf {a1 : Int32} {I : Ix} {L : Lx} {Q Q' : Int32 → Ix → Lx → Prop} (hQ : ∀ (r : Int32) (I1 : Ix) (L1 : Lx), FrI (wsI_X12_hardOf) (fsI_X12_hardOf) I I1 → FrL (wsL_X12_hardOf) (fsL_X12_hardOf) L L1 → Q r I1 L1 → Q' r I1 L1) (h : wpX12_hardOf a1 I L Q) : wpX12_hardOf a1 I L Q' := by
  have hF : FrI (wsI_X12_hardOf) (fsI_X12_hardOf) I I := FrI.rf
  have hL : FrL (wsL_X12_hardOf) (fsL_X12_hardOf) L L := FrL.rf
  unfold wpX12_hardOf at h ⊢
  refine ⟨h.1, ?_⟩
  have h := h.2
  exact hQ _ _ _ hF hL h
abbrev wsI_X12_lower : List Nat := []
abbrev wsL_X12_lower : List Nat := []
abbrev fsI_X12_lower : List (Nat × Nat) := []
abbrev fsL_X12_lower : List (Nat × Nat) := []
set_option maxRecDepth 10000 in
theorem mnX12_lower {a0 : Int32} {a1 : Int32} {a2 : Int32} {I : Ix} {L : Lx} {Q Q' : Int32 → Ix → Lx → Prop} (hQ : ∀ (r : Int32) (I1 : Ix) (L1 : Lx), FrI (wsI_X12_lower) (fsI_X12_lower) I I1 → FrL (wsL_X12_lower) (fsL_X12_lower) L L1 → Q r I1 L1 → Q' r I1 L1) (h : wpX12_lower a0 a1 a2 I L Q) : wpX12_lower a0 a1 a2 I L Q' := by
  have hF : FrI (wsI_X12_lower) (fsI_X12_lower) I I := FrI.rf
  have hL : FrL (wsL_X12_lower) (fsL_X12_lower) L L := FrL.rf
  unfold wpX12_lower at h ⊢
  refine ⟨fun hc => ?_, fun hc => ?_⟩
  · have h := h.1 hc
    exact hQ _ _ _ hF hL h
  · have h := h.2 hc
    exact hQ _ _ _ hF hL h
abbrev wsI_X12_use : List Nat := [148, 144, 149, 143]
abbrev wsL_X12_use : List Nat := []
abbrev fsI_X12_use : List (Nat × Nat) := []
abbrev fsL_X12_use : List (Nat × Nat) := []
set_option maxRecDepth 10000 in
theorem mnX12_use_l2 {I0 : Ix} {L0 : Lx} {Q Q' : Ix → Lx → Prop} {P2 P2' : Int32 → Int32 → Ix → Lx → Prop} (hQ : ∀ (I1 : Ix) (L1 : Lx), FrI (wsI_X12_use) (fsI_X12_use) I0 I1 → FrL (wsL_X12_use) (fsL_X12_use) L0 L1 → Q I1 L1 → Q' I1 L1) (hP2 : ∀ (v1 : Int32) (v2 : Int32) (I1 : Ix) (L1 : Lx), FrI (wsI_X12_use) (fsI_X12_use) I0 I1 → FrL (wsL_X12_use) (fsL_X12_use) L0 L1 → P2 v1 v2 I1 L1 → P2' v1 v2 I1 L1) {v1 : Int32} {v2 : Int32} {I : Ix} {L : Lx} (hF : FrI (wsI_X12_use) (fsI_X12_use) I0 I) (hL : FrL (wsL_X12_use) (fsL_X12_use) L0 L) (h : wpX12_use_l2 Q P2 v1 v2 I L) : wpX12_use_l2 Q' P2' v1 v2 I L := by
  unfold wpX12_use_l2 at h ⊢
  refine ⟨fun hc => ?_, fun hc => ?_⟩
  · have h := h.1 hc
    exact hQ _ _ hF hL h
  · have h := h.2 hc
    refine ⟨h.1, ?_⟩
    have h := h.2
    refine ⟨fun hc => ?_, fun hc => ?_⟩
    · have h := h.1 hc
      refine ⟨h.1, ?_⟩
      have h := h.2
      refine ⟨h.1, ?_⟩
      have h := h.2
      refine ⟨h.1, ?_⟩
      have h := h.2
      refine mnX12_hardOf (fun r3 I1 L2 hf hl h => ?_) h
      have hF := hF.tr hf (by decide) (by decide)
      have hL := hL.tr hl (by decide) (by decide)
      refine ⟨h.1, ?_⟩
      have h := h.2
      intro I4 eI4
      have h := h I4 eI4
      have hF := hF.pw eI4 (by decide)
      refine ⟨h.1, ?_⟩
      have h := h.2
      refine ⟨h.1, ?_⟩
      have h := h.2
      refine mnX12_hardOf (fun r7 I5 L6 hf hl h => ?_) h
      have hF := hF.tr hf (by decide) (by decide)
      have hL := hL.tr hl (by decide) (by decide)
      refine mnX12_lower (fun r10 I8 L9 hf hl h => ?_) h
      have hF := hF.tr hf (by decide) (by decide)
      have hL := hL.tr hl (by decide) (by decide)
      refine ⟨h.1, ?_⟩
      have h := h.2
      intro I11 eI11
      have h := h I11 eI11
      have hF := hF.pw eI11 (by decide)
      refine ⟨h.1, ?_⟩
      have h := h.2
      refine ⟨fun hc => ?_, fun hc => ?_⟩
      · have h := h.1 hc
        exact hP2 _ _ _ _ hF hL h
      · have h := h.2 hc
        refine mnX12_hardOf (fun r14 I12 L13 hf hl h => ?_) h
        have hF := hF.tr hf (by decide) (by decide)
        have hL := hL.tr hl (by decide) (by decide)
        refine ⟨fun hc => ?_, fun hc => ?_⟩
        · have h := h.1 hc
          refine ⟨h.1, ?_⟩
          have h := h.2
          intro I15 eI15
          have h := h I15 eI15
          have hF := hF.pw eI15 (by decide)
          refine ⟨h.1, ?_⟩
          have h := h.2
          intro I16 eI16
          have h := h I16 eI16
          have hF := hF.pw eI16 (by decide)
          exact hP2 _ _ _ _ hF hL h
        · have h := h.2 hc
          exact hP2 _ _ _ _ hF hL h
    · have h := h.2 hc
      exact hP2 _ _ _ _ hF hL h
set_option maxRecDepth 10000 in
theorem mnX12_use_h2 {I0 : Ix} {L0 : Lx} {Q Q' : Ix → Lx → Prop} (hQ : ∀ (I1 : Ix) (L1 : Lx), FrI (wsI_X12_use) (fsI_X12_use) I0 I1 → FrL (wsL_X12_use) (fsL_X12_use) L0 L1 → Q I1 L1 → Q' I1 L1) {v1 : Int32} {v2 : Int32} {I : Ix} {L : Lx} (hF : FrI (wsI_X12_use) (fsI_X12_use) I0 I) (hL : FrL (wsL_X12_use) (fsL_X12_use) L0 L) (h : wpX12_use_h2 Q v1 v2 I L) : wpX12_use_h2 Q' v1 v2 I L := by
  unfold wpX12_use_h2 at h
  refine Lfp.ind (P := fun z => FrI (wsI_X12_use) (fsI_X12_use) I0 z.2.2.1 → FrL (wsL_X12_use) (fsL_X12_use) L0 z.2.2.2 → wpX12_use_h2 Q' z.1 z.2.1 z.2.2.1 z.2.2.2) ?_ h hF hL
  intro z P' hP' h hF hL
  obtain ⟨v1, v2, I, L⟩ := z
  exact wpX12_use_h2_fold (mnX12_use_l2 hQ (fun v1 v2 I L hF hL h9 => hP' (v1, v2, I, L) h9 hF hL) hF hL h)
set_option maxRecDepth 10000 in
theorem mnX12_use {a1 : Int32} {I : Ix} {L : Lx} {Q Q' : Ix → Lx → Prop} (hQ : ∀ (I1 : Ix) (L1 : Lx), FrI (wsI_X12_use) (fsI_X12_use) I I1 → FrL (wsL_X12_use) (fsL_X12_use) L L1 → Q I1 L1 → Q' I1 L1) (h : wpX12_use a1 I L Q) : wpX12_use a1 I L Q' := by
  have hF : FrI (wsI_X12_use) (fsI_X12_use) I I := FrI.rf
  have hL : FrL (wsL_X12_use) (fsL_X12_use) L L := FrL.rf
  unfold wpX12_use at h ⊢
  exact mnX12_use_h2 hQ hF hL h
abbrev wsI_X12_useAndMend : List Nat := [144, 148, 149, 143]
abbrev wsL_X12_useAndMend : List Nat := []
abbrev fsI_X12_useAndMend : List (Nat × Nat) := []
abbrev fsL_X12_useAndMend : List (Nat × Nat) := []
set_option maxRecDepth 10000 in
theorem mnX12_useAndMend_l23 {I0 : Ix} {L0 : Lx} {Q Q' : Ix → Lx → Prop} {P23 P23' : Int32 → Ix → Lx → Prop} (hQ : ∀ (I1 : Ix) (L1 : Lx), FrI (wsI_X12_useAndMend) (fsI_X12_useAndMend) I0 I1 → FrL (wsL_X12_useAndMend) (fsL_X12_useAndMend) L0 L1 → Q I1 L1 → Q' I1 L1) (hP23 : ∀ (v1 : Int32) (I1 : Ix) (L1 : Lx), FrI (wsI_X12_useAndMend) (fsI_X12_useAndMend) I0 I1 → FrL (wsL_X12_useAndMend) (fsL_X12_useAndMend) L0 L1 → P23 v1 I1 L1 → P23' v1 I1 L1) {v1 : Int32} {I : Ix} {L : Lx} (hF : FrI (wsI_X12_useAndMend) (fsI_X12_useAndMend) I0 I) (hL : FrL (wsL_X12_useAndMend) (fsL_X12_useAndMend) L0 L) (h : wpX12_useAndMend_l23 Q P23 v1 I L) : wpX12_useAndMend_l23 Q' P23' v1 I L := by
  unfold wpX12_useAndMend_l23 at h ⊢
  refine ⟨fun hc => ?_, fun hc => ?_⟩
  · have h := h.1 hc
    exact hQ _ _ hF hL h
  · have h := h.2 hc
    refine mnX12_mend (fun I1 L2 hf hl h => ?_) h
    have hF := hF.tr hf (by decide) (by decide)
    have hL := hL.tr hl (by decide) (by decide)
    exact hP23 _ _ _ hF hL h
set_option maxRecDepth 10000 in
theorem mnX12_useAndMend_h23 {I0 : Ix} {L0 : Lx} {Q Q' : Ix → Lx → Prop} (hQ : ∀ (I1 : Ix) (L1 : Lx), FrI (wsI_X12_useAndMend) (fsI_X12_useAndMend) I0 I1 → FrL (wsL_X12_useAndMend) (fsL_X12_useAndMend) L0 L1 → Q I1 L1 → Q' I1 L1) {v1 : Int32} {I : Ix} {L : Lx} (hF : FrI (wsI_X12_useAndMend) (fsI_X12_useAndMend) I0 I) (hL : FrL (wsL_X12_useAndMend) (fsL_X12_useAndMend) L0 L) (h : wpX12_useAndMend_h23 Q v1 I L) : wpX12_useAndMend_h23 Q' v1 I L := by
  unfold wpX12_useAndMend_h23 at h
  refine Lfp.ind (P := fun z => FrI (wsI_X12_useAndMend) (fsI_X12_useAndMend) I0 z.2.1 → FrL (wsL_X12_useAndMend) (fsL_X12_useAndMend) L0 z.2.2 → wpX12_useAndMend_h23 Q' z.1 z.2.1 z.2.2) ?_ h hF hL
  intro z P' hP' h hF hL
  obtain ⟨v1, I, L⟩ := z
  exact wpX12_useAndMend_h23_fold (mnX12_useAndMend_l23 hQ (fun v1 I L hF hL h9 => hP' (v1, I, L) h9 hF hL) hF hL h)
set_option maxRecDepth 10000 in
theorem mnX12_useAndMend_l2 {I0 : Ix} {L0 : Lx} {Q Q' : Ix → Lx → Prop} {P2 P2' : Int32 → Ix → Lx → Prop} (hQ : ∀ (I1 : Ix) (L1 : Lx), FrI (wsI_X12_useAndMend) (fsI_X12_useAndMend) I0 I1 → FrL (wsL_X12_useAndMend) (fsL_X12_useAndMend) L0 L1 → Q I1 L1 → Q' I1 L1) (hP2 : ∀ (v1 : Int32) (I1 : Ix) (L1 : Lx), FrI (wsI_X12_useAndMend) (fsI_X12_useAndMend) I0 I1 → FrL (wsL_X12_useAndMend) (fsL_X12_useAndMend) L0 L1 → P2 v1 I1 L1 → P2' v1 I1 L1) {v1 : Int32} {I : Ix} {L : Lx} (hF : FrI (wsI_X12_useAndMend) (fsI_X12_useAndMend) I0 I) (hL : FrL (wsL_X12_useAndMend) (fsL_X12_useAndMend) L0 L) (h : wpX12_useAndMend_l2 Q P2 v1 I L) : wpX12_useAndMend_l2 Q' P2' v1 I L := by
  unfold wpX12_useAndMend_l2 at h ⊢
  refine ⟨fun hc => ?_, fun hc => ?_⟩
  · have h := h.1 hc
    exact mnX12_useAndMend_h23 hQ hF hL h
  · have h := h.2 hc
    refine mnX12_use (fun I1 L2 hf hl h => ?_) h
    have hF := hF.tr hf (by decide) (by decide)
    have hL := hL.tr hl (by decide) (by decide)
    exact hP2 _ _ _ hF hL h
set_option maxRecDepth 10000 in
theorem mnX12_useAndMend_h2 {I0 : Ix} {L0 : Lx} {Q Q' : Ix → Lx → Prop} (hQ : ∀ (I1 : Ix) (L1 : Lx), FrI (wsI_X12_useAndMend) (fsI_X12_useAndMend) I0 I1 → FrL (wsL_X12_useAndMend) (fsL_X12_useAndMend) L0 L1 → Q I1 L1 → Q' I1 L1) {v1 : Int32} {I : Ix} {L : Lx} (hF : FrI (wsI_X12_useAndMend) (fsI_X12_useAndMend) I0 I) (hL : FrL (wsL_X12_useAndMend) (fsL_X12_useAndMend) L0 L) (h : wpX12_useAndMend_h2 Q v1 I L) : wpX12_useAndMend_h2 Q' v1 I L := by
  unfold wpX12_useAndMend_h2 at h
  refine Lfp.ind (P := fun z => FrI (wsI_X12_useAndMend) (fsI_X12_useAndMend) I0 z.2.1 → FrL (wsL_X12_useAndMend) (fsL_X12_useAndMend) L0 z.2.2 → wpX12_useAndMend_h2 Q' z.1 z.2.1 z.2.2) ?_ h hF hL
  intro z P' hP' h hF hL
  obtain ⟨v1, I, L⟩ := z
  exact wpX12_useAndMend_h2_fold (mnX12_useAndMend_l2 hQ (fun v1 I L hF hL h9 => hP' (v1, I, L) h9 hF hL) hF hL h)
set_option maxRecDepth 10000 in
theorem mnX12_useAndMend {I : Ix} {L : Lx} {Q Q' : Ix → Lx → Prop} (hQ : ∀ (I1 : Ix) (L1 : Lx), FrI (wsI_X12_useAndMend) (fsI_X12_useAndMend) I I1 → FrL (wsL_X12_useAndMend) (fsL_X12_useAndMend) L L1 → Q I1 L1 → Q' I1 L1) (h : wpX12_useAndMend I L Q) : wpX12_useAndMend I L Q' := by
  have hF : FrI (wsI_X12_useAndMend) (fsI_X12_useAndMend) I I := FrI.rf
  have hL : FrL (wsL_X12_useAndMend) (fsL_X12_useAndMend) L L := FrL.rf
  unfold wpX12_useAndMend at h ⊢
  exact mnX12_useAndMend_h2 hQ hF hL h
abbrev wsI_X12_doDay : List Nat := [150, 147, 160, 159, 129, 130, 143, 145, 157, 158, 144, 148, 149]
abbrev wsL_X12_doDay : List Nat := []
abbrev fsI_X12_doDay : List (Nat × Nat) := [(120, 59), (120, 57), (120, 77), (120, 58), (120, 75)]
abbrev fsL_X12_doDay : List (Nat × Nat) := []
set_option maxRecDepth 10000 in
theorem mnX12_doDay_l72 {I0 : Ix} {L0 : Lx} {Q Q' : Ix → Lx → Prop} {P72 P72' : Int32 → Ix → Lx → Prop} (hQ : ∀ (I1 : Ix) (L1 : Lx), FrI (wsI_X12_doDay) (fsI_X12_doDay) I0 I1 → FrL (wsL_X12_doDay) (fsL_X12_doDay) L0 L1 → Q I1 L1 → Q' I1 L1) (hP72 : ∀ (v3 : Int32) (I1 : Ix) (L1 : Lx), FrI (wsI_X12_doDay) (fsI_X12_doDay) I0 I1 → FrL (wsL_X12_doDay) (fsL_X12_doDay) L0 L1 → P72 v3 I1 L1 → P72' v3 I1 L1) {v3 : Int32} {I : Ix} {L : Lx} (hF : FrI (wsI_X12_doDay) (fsI_X12_doDay) I0 I) (hL : FrL (wsL_X12_doDay) (fsL_X12_doDay) L0 L) (h : wpX12_doDay_l72 Q P72 v3 I L) : wpX12_doDay_l72 Q' P72' v3 I L := by
  unfold wpX12_doDay_l72 at h ⊢
  refine ⟨fun hc => ?_, fun hc => ?_⟩
  · have h := h.1 hc
    exact hQ _ _ hF hL h
  · have h := h.2 hc
    refine ⟨fun hc => ?_, fun hc => ?_⟩
    · have h := h.1 hc
      exact hQ _ _ hF hL h
    · have h := h.2 hc
      refine ⟨fun hc => ?_, fun hc => ?_⟩
      · have h := h.1 hc
        exact hQ _ _ hF hL h
      · have h := h.2 hc
        refine ⟨h.1, ?_⟩
        have h := h.2
        refine ⟨h.1, ?_⟩
        have h := h.2
        intro I1 eI1
        have h := h I1 eI1
        have hF := hF.pw eI1 (by decide)
        exact hP72 _ _ _ hF hL h
set_option maxRecDepth 10000 in
theorem mnX12_doDay_h72 {I0 : Ix} {L0 : Lx} {Q Q' : Ix → Lx → Prop} (hQ : ∀ (I1 : Ix) (L1 : Lx), FrI (wsI_X12_doDay) (fsI_X12_doDay) I0 I1 → FrL (wsL_X12_doDay) (fsL_X12_doDay) L0 L1 → Q I1 L1 → Q' I1 L1) {v3 : Int32} {I : Ix} {L : Lx} (hF : FrI (wsI_X12_doDay) (fsI_X12_doDay) I0 I) (hL : FrL (wsL_X12_doDay) (fsL_X12_doDay) L0 L) (h : wpX12_doDay_h72 Q v3 I L) : wpX12_doDay_h72 Q' v3 I L := by
  unfold wpX12_doDay_h72 at h
  refine Lfp.ind (P := fun z => FrI (wsI_X12_doDay) (fsI_X12_doDay) I0 z.2.1 → FrL (wsL_X12_doDay) (fsL_X12_doDay) L0 z.2.2 → wpX12_doDay_h72 Q' z.1 z.2.1 z.2.2) ?_ h hF hL
  intro z P' hP' h hF hL
  obtain ⟨v3, I, L⟩ := z
  exact wpX12_doDay_h72_fold (mnX12_doDay_l72 hQ (fun v3 I L hF hL h9 => hP' (v3, I, L) h9 hF hL) hF hL h)
set_option maxRecDepth 10000 in
theorem mnX12_doDay_b60 {I0 : Ix} {L0 : Lx} {Q Q' : Ix → Lx → Prop} (hQ : ∀ (I1 : Ix) (L1 : Lx), FrI (wsI_X12_doDay) (fsI_X12_doDay) I0 I1 → FrL (wsL_X12_doDay) (fsL_X12_doDay) L0 L1 → Q I1 L1 → Q' I1 L1) {v1 : Int32} {v2 : Int32} {t1 : Int32} {t2 : Int32} {I : Ix} {L : Lx} (hF : FrI (wsI_X12_doDay) (fsI_X12_doDay) I0 I) (hL : FrL (wsL_X12_doDay) (fsL_X12_doDay) L0 L) (h : wpX12_doDay_b60 Q v1 v2 t1 t2 I L) : wpX12_doDay_b60 Q' v1 v2 t1 t2 I L := by
  unfold wpX12_doDay_b60 at h ⊢
  intro I1 eI1
  have h := h I1 eI1
  have hF := hF.pf eI1 (by decide)
  refine mnX12_doNoons (fun I2 L3 hf hl h => ?_) h
  have hF := hF.tr hf (by decide) (by decide)
  have hL := hL.tr hl (by decide) (by decide)
  exact mnX12_doDay_h72 hQ hF hL h
set_option maxRecDepth 10000 in
theorem mnX12_doDay_b45 {I0 : Ix} {L0 : Lx} {Q Q' : Ix → Lx → Prop} (hQ : ∀ (I1 : Ix) (L1 : Lx), FrI (wsI_X12_doDay) (fsI_X12_doDay) I0 I1 → FrL (wsL_X12_doDay) (fsL_X12_doDay) L0 L1 → Q I1 L1 → Q' I1 L1) {v1 : Int32} {t0 : Int32} {I : Ix} {L : Lx} (hF : FrI (wsI_X12_doDay) (fsI_X12_doDay) I0 I) (hL : FrL (wsL_X12_doDay) (fsL_X12_doDay) L0 L) (h : wpX12_doDay_b45 Q v1 t0 I L) : wpX12_doDay_b45 Q' v1 t0 I L := by
  unfold wpX12_doDay_b45 at h ⊢
  refine ⟨fun hc => ?_, fun hc => ?_⟩
  · have h := h.1 hc
    exact mnX12_doDay_b60 hQ hF hL h
  · have h := h.2 hc
    exact mnX12_doDay_b60 hQ hF hL h
set_option maxRecDepth 10000 in
theorem mnX12_doDay_b44 {I0 : Ix} {L0 : Lx} {Q Q' : Ix → Lx → Prop} (hQ : ∀ (I1 : Ix) (L1 : Lx), FrI (wsI_X12_doDay) (fsI_X12_doDay) I0 I1 → FrL (wsL_X12_doDay) (fsL_X12_doDay) L0 L1 → Q I1 L1 → Q' I1 L1) {v1 : Int32} {I : Ix} {L : Lx} (hF : FrI (wsI_X12_doDay) (fsI_X12_doDay) I0 I) (hL : FrL (wsL_X12_doDay) (fsL_X12_doDay) L0 L) (h : wpX12_doDay_b44 Q v1 I L) : wpX12_doDay_b44 Q' v1 I L := by
  unfold wpX12_doDay_b44 at h ⊢
  exact mnX12_doDay_b45 hQ hF hL h
set_option maxRecDepth 10000 in
theorem mnX12_doDay {a1 : Int32} {I : Ix} {L : Lx} {Q Q' : Ix → Lx → Prop} (hQ : ∀ (I1 : Ix) (L1 : Lx), FrI (wsI_X12_doDay) (fsI_X12_doDay) I I1 → FrL (wsL_X12_doDay) (fsL_X12_doDay) L L1 → Q I1 L1 → Q' I1 L1) (h : wpX12_doDay a1 I L Q) : wpX12_doDay a1 I L Q' := by
  have hF : FrI (wsI_X12_doDay) (fsI_X12_doDay) I I := FrI.rf
  have hL : FrL (wsL_X12_doDay) (fsL_X12_doDay) L L := FrL.rf
  unfold wpX12_doDay at h ⊢
  intro I1 eI1
  have h := h I1 eI1
  have hF := hF.pf eI1 (by decide)
  refine mnX12_useAndMend (fun I2 L3 hf hl h => ?_) h
  have hF := hF.tr hf (by decide) (by decide)
  have hL := hL.tr hl (by decide) (by decide)
  refine ⟨fun hc => ?_, fun hc => ?_⟩
  · have h := h.1 hc
    refine ⟨fun hc => ?_, fun hc => ?_⟩
    · have h := h.1 hc
      exact mnX12_doDay_b44 hQ hF hL h
    · have h := h.2 hc
      refine mnX12_draw (fun r6 I4 L5 hf hl h => ?_) h
      have hF := hF.tr hf (by decide) (by decide)
      have hL := hL.tr hl (by decide) (by decide)
      refine ⟨fun hc => ?_, fun hc => ?_⟩
      · have h := h.1 hc
        exact mnX12_doDay_b44 hQ hF hL h
      · have h := h.2 hc
        exact mnX12_doDay_b45 hQ hF hL h
  · have h := h.2 hc
    exact hQ _ _ hF hL h
abbrev wsI_X12_run : List Nat := [150, 147, 160, 159, 129, 130, 143, 145, 157, 158, 144, 148, 149]
abbrev wsL_X12_run : List Nat := []
abbrev fsI_X12_run : List (Nat × Nat) := [(120, 59), (120, 57), (120, 77), (120, 58), (120, 75)]
abbrev fsL_X12_run : List (Nat × Nat) := []
set_option maxRecDepth 10000 in
theorem mnX12_run_l31 {I0 : Ix} {L0 : Lx} {Q Q' : Int32 → Ix → Lx → Prop} {P31 P31' : Int32 → Int32 → Int32 → Ix → Lx → Prop} (hQ : ∀ (r : Int32) (I1 : Ix) (L1 : Lx), FrI (wsI_X12_run) (fsI_X12_run) I0 I1 → FrL (wsL_X12_run) (fsL_X12_run) L0 L1 → Q r I1 L1 → Q' r I1 L1) (hP31 : ∀ (v1 : Int32) (v2 : Int32) (v3 : Int32) (I1 : Ix) (L1 : Lx), FrI (wsI_X12_run) (fsI_X12_run) I0 I1 → FrL (wsL_X12_run) (fsL_X12_run) L0 L1 → P31 v1 v2 v3 I1 L1 → P31' v1 v2 v3 I1 L1) {v1 : Int32} {v2 : Int32} {v3 : Int32} {I : Ix} {L : Lx} (hF : FrI (wsI_X12_run) (fsI_X12_run) I0 I) (hL : FrL (wsL_X12_run) (fsL_X12_run) L0 L) (h : wpX12_run_l31 Q P31 v1 v2 v3 I L) : wpX12_run_l31 Q' P31' v1 v2 v3 I L := by
  unfold wpX12_run_l31 at h ⊢
  refine ⟨fun hc => ?_, fun hc => ?_⟩
  · have h := h.1 hc
    refine mnX12_allMade (fun r3 I1 L2 hf hl h => ?_) h
    have hF := hF.tr hf (by decide) (by decide)
    have hL := hL.tr hl (by decide) (by decide)
    exact hQ _ _ _ hF hL h
  · have h := h.2 hc
    refine mnX12_doDay (fun I4 L5 hf hl h => ?_) h
    have hF := hF.tr hf (by decide) (by decide)
    have hL := hL.tr hl (by decide) (by decide)
    exact hP31 _ _ _ _ _ hF hL h
set_option maxRecDepth 10000 in
theorem mnX12_run_h31 {I0 : Ix} {L0 : Lx} {Q Q' : Int32 → Ix → Lx → Prop} (hQ : ∀ (r : Int32) (I1 : Ix) (L1 : Lx), FrI (wsI_X12_run) (fsI_X12_run) I0 I1 → FrL (wsL_X12_run) (fsL_X12_run) L0 L1 → Q r I1 L1 → Q' r I1 L1) {v1 : Int32} {v2 : Int32} {v3 : Int32} {I : Ix} {L : Lx} (hF : FrI (wsI_X12_run) (fsI_X12_run) I0 I) (hL : FrL (wsL_X12_run) (fsL_X12_run) L0 L) (h : wpX12_run_h31 Q v1 v2 v3 I L) : wpX12_run_h31 Q' v1 v2 v3 I L := by
  unfold wpX12_run_h31 at h
  refine Lfp.ind (P := fun z => FrI (wsI_X12_run) (fsI_X12_run) I0 z.2.2.2.1 → FrL (wsL_X12_run) (fsL_X12_run) L0 z.2.2.2.2 → wpX12_run_h31 Q' z.1 z.2.1 z.2.2.1 z.2.2.2.1 z.2.2.2.2) ?_ h hF hL
  intro z P' hP' h hF hL
  obtain ⟨v1, v2, v3, I, L⟩ := z
  exact wpX12_run_h31_fold (mnX12_run_l31 hQ (fun v1 v2 v3 I L hF hL h9 => hP' (v1, v2, v3, I, L) h9 hF hL) hF hL h)
set_option maxRecDepth 10000 in
theorem mnX12_run {a1 : Int32} {I : Ix} {L : Lx} {Q Q' : Int32 → Ix → Lx → Prop} (hQ : ∀ (r : Int32) (I1 : Ix) (L1 : Lx), FrI (wsI_X12_run) (fsI_X12_run) I I1 → FrL (wsL_X12_run) (fsL_X12_run) L L1 → Q r I1 L1 → Q' r I1 L1) (h : wpX12_run a1 I L Q) : wpX12_run a1 I L Q' := by
  have hF : FrI (wsI_X12_run) (fsI_X12_run) I I := FrI.rf
  have hL : FrL (wsL_X12_run) (fsL_X12_run) L L := FrL.rf
  unfold wpX12_run at h ⊢
  refine ⟨fun hc => ?_, fun hc => ?_⟩
  · have h := h.1 hc
    exact hQ _ _ _ hF hL h
  · have h := h.2 hc
    refine ⟨fun hc => ?_, fun hc => ?_⟩
    · have h := h.1 hc
      exact hQ _ _ _ hF hL h
    · have h := h.2 hc
      refine ⟨fun hc => ?_, fun hc => ?_⟩
      · have h := h.1 hc
        refine mnX12_allMade (fun r3 I1 L2 hf hl h => ?_) h
        have hF := hF.tr hf (by decide) (by decide)
        have hL := hL.tr hl (by decide) (by decide)
        exact mnX12_run_h31 hQ hF hL h
      · have h := h.2 hc
        exact hQ _ _ _ hF hL h
abbrev wsI_X12_isThing : List Nat := []
abbrev wsL_X12_isThing : List Nat := []
abbrev fsI_X12_isThing : List (Nat × Nat) := []
abbrev fsL_X12_isThing : List (Nat × Nat) := []
set_option maxRecDepth 10000 in
theorem mnX12_isThing {a1 : Int32} {I : Ix} {L : Lx} {Q Q' : Bool → Ix → Lx → Prop} (hQ : ∀ (r : Bool) (I1 : Ix) (L1 : Lx), FrI (wsI_X12_isThing) (fsI_X12_isThing) I I1 → FrL (wsL_X12_isThing) (fsL_X12_isThing) L L1 → Q r I1 L1 → Q' r I1 L1) (h : wpX12_isThing a1 I L Q) : wpX12_isThing a1 I L Q' := by
  have hF : FrI (wsI_X12_isThing) (fsI_X12_isThing) I I := FrI.rf
  have hL : FrL (wsL_X12_isThing) (fsL_X12_isThing) L L := FrL.rf
  unfold wpX12_isThing at h ⊢
  refine ⟨fun hc => ?_, fun hc => ?_⟩
  · have h := h.1 hc
    exact hQ _ _ _ hF hL h
  · have h := h.2 hc
    refine ⟨fun hc => ?_, fun hc => ?_⟩
    · have h := h.1 hc
      exact hQ _ _ _ hF hL h
    · have h := h.2 hc
      exact hQ _ _ _ hF hL h
abbrev wsI_X12_thing : List Nat := []
abbrev wsL_X12_thing : List Nat := []
abbrev fsI_X12_thing : List (Nat × Nat) := []
abbrev fsL_X12_thing : List (Nat × Nat) := []
set_option maxRecDepth 10000 in
theorem mnX12_thing {a1 : Int32} {a2 : Int32} {I : Ix} {L : Lx} {Q Q' : Int32 → Ix → Lx → Prop} (hQ : ∀ (r : Int32) (I1 : Ix) (L1 : Lx), FrI (wsI_X12_thing) (fsI_X12_thing) I I1 → FrL (wsL_X12_thing) (fsL_X12_thing) L L1 → Q r I1 L1 → Q' r I1 L1) (h : wpX12_thing a1 a2 I L Q) : wpX12_thing a1 a2 I L Q' := by
  have hF : FrI (wsI_X12_thing) (fsI_X12_thing) I I := FrI.rf
  have hL : FrL (wsL_X12_thing) (fsL_X12_thing) L L := FrL.rf
  unfold wpX12_thing at h ⊢
  refine mnX12_isThing (fun r3 I1 L2 hf hl h => ?_) h
  have hF := hF.tr hf (by decide) (by decide)
  have hL := hL.tr hl (by decide) (by decide)
  refine ⟨fun hc => ?_, fun hc => ?_⟩
  · have h := h.1 hc
    refine ⟨fun hc => ?_, fun hc => ?_, fun hc => ?_, fun hc => ?_, fun hc => ?_, fun hc => ?_, ?_⟩
    · have h := h.1 hc
      refine ⟨h.1, ?_⟩
      have h := h.2
      exact hQ _ _ _ hF hL h
    · have h := h.2.1 hc
      refine ⟨h.1, ?_⟩
      have h := h.2
      exact hQ _ _ _ hF hL h
    · have h := h.2.2.1 hc
      refine ⟨h.1, ?_⟩
      have h := h.2
      exact hQ _ _ _ hF hL h
    · have h := h.2.2.2.1 hc
      refine ⟨h.1, ?_⟩
      have h := h.2
      refine ⟨fun hc => ?_, fun hc => ?_⟩
      · have h := h.1 hc
        exact hQ _ _ _ hF hL h
      · have h := h.2 hc
        exact hQ _ _ _ hF hL h
    · have h := h.2.2.2.2.1 hc
      refine mnX12_placeOf (fun r6 I4 L5 hf hl h => ?_) h
      have hF := hF.tr hf (by decide) (by decide)
      have hL := hL.tr hl (by decide) (by decide)
      exact hQ _ _ _ hF hL h
    · have h := h.2.2.2.2.2.1 hc
      refine ⟨h.1, ?_⟩
      have h := h.2
      exact hQ _ _ _ hF hL h
    · intro e0 e1 e2 e3 e4 e5
      have h := h.2.2.2.2.2.2 e0 e1 e2 e3 e4 e5
      exact hQ _ _ _ hF hL h
  · have h := h.2 hc
    exact hQ _ _ _ hF hL h
abbrev wsI_X12_isPerson : List Nat := []
abbrev wsL_X12_isPerson : List Nat := []
abbrev fsI_X12_isPerson : List (Nat × Nat) := []
abbrev fsL_X12_isPerson : List (Nat × Nat) := []
set_option maxRecDepth 10000 in
theorem mnX12_isPerson {a1 : Int32} {I : Ix} {L : Lx} {Q Q' : Bool → Ix → Lx → Prop} (hQ : ∀ (r : Bool) (I1 : Ix) (L1 : Lx), FrI (wsI_X12_isPerson) (fsI_X12_isPerson) I I1 → FrL (wsL_X12_isPerson) (fsL_X12_isPerson) L L1 → Q r I1 L1 → Q' r I1 L1) (h : wpX12_isPerson a1 I L Q) : wpX12_isPerson a1 I L Q' := by
  have hF : FrI (wsI_X12_isPerson) (fsI_X12_isPerson) I I := FrI.rf
  have hL : FrL (wsL_X12_isPerson) (fsL_X12_isPerson) L L := FrL.rf
  unfold wpX12_isPerson at h ⊢
  refine ⟨fun hc => ?_, fun hc => ?_⟩
  · have h := h.1 hc
    exact hQ _ _ _ hF hL h
  · have h := h.2 hc
    refine ⟨fun hc => ?_, fun hc => ?_⟩
    · have h := h.1 hc
      exact hQ _ _ _ hF hL h
    · have h := h.2 hc
      exact hQ _ _ _ hF hL h
abbrev wsI_X12_ownedBy : List Nat := []
abbrev wsL_X12_ownedBy : List Nat := []
abbrev fsI_X12_ownedBy : List (Nat × Nat) := []
abbrev fsL_X12_ownedBy : List (Nat × Nat) := []
set_option maxRecDepth 10000 in
theorem mnX12_ownedBy_l4 {I0 : Ix} {L0 : Lx} {Q Q' : Int32 → Ix → Lx → Prop} {P4 P4' : Int32 → Int32 → Int32 → Ix → Lx → Prop} (hQ : ∀ (r : Int32) (I1 : Ix) (L1 : Lx), FrI (wsI_X12_ownedBy) (fsI_X12_ownedBy) I0 I1 → FrL (wsL_X12_ownedBy) (fsL_X12_ownedBy) L0 L1 → Q r I1 L1 → Q' r I1 L1) (hP4 : ∀ (v1 : Int32) (v2 : Int32) (v3 : Int32) (I1 : Ix) (L1 : Lx), FrI (wsI_X12_ownedBy) (fsI_X12_ownedBy) I0 I1 → FrL (wsL_X12_ownedBy) (fsL_X12_ownedBy) L0 L1 → P4 v1 v2 v3 I1 L1 → P4' v1 v2 v3 I1 L1) {v1 : Int32} {v2 : Int32} {v3 : Int32} {I : Ix} {L : Lx} (hF : FrI (wsI_X12_ownedBy) (fsI_X12_ownedBy) I0 I) (hL : FrL (wsL_X12_ownedBy) (fsL_X12_ownedBy) L0 L) (h : wpX12_ownedBy_l4 Q P4 v1 v2 v3 I L) : wpX12_ownedBy_l4 Q' P4' v1 v2 v3 I L := by
  unfold wpX12_ownedBy_l4 at h ⊢
  refine ⟨fun hc => ?_, fun hc => ?_⟩
  · have h := h.1 hc
    exact hQ _ _ _ hF hL h
  · have h := h.2 hc
    refine ⟨h.1, ?_⟩
    have h := h.2
    refine ⟨fun hc => ?_, fun hc => ?_⟩
    · have h := h.1 hc
      exact hP4 _ _ _ _ _ hF hL h
    · have h := h.2 hc
      exact hP4 _ _ _ _ _ hF hL h
set_option maxRecDepth 10000 in
theorem mnX12_ownedBy_h4 {I0 : Ix} {L0 : Lx} {Q Q' : Int32 → Ix → Lx → Prop} (hQ : ∀ (r : Int32) (I1 : Ix) (L1 : Lx), FrI (wsI_X12_ownedBy) (fsI_X12_ownedBy) I0 I1 → FrL (wsL_X12_ownedBy) (fsL_X12_ownedBy) L0 L1 → Q r I1 L1 → Q' r I1 L1) {v1 : Int32} {v2 : Int32} {v3 : Int32} {I : Ix} {L : Lx} (hF : FrI (wsI_X12_ownedBy) (fsI_X12_ownedBy) I0 I) (hL : FrL (wsL_X12_ownedBy) (fsL_X12_ownedBy) L0 L) (h : wpX12_ownedBy_h4 Q v1 v2 v3 I L) : wpX12_ownedBy_h4 Q' v1 v2 v3 I L := by
  unfold wpX12_ownedBy_h4 at h
  refine Lfp.ind (P := fun z => FrI (wsI_X12_ownedBy) (fsI_X12_ownedBy) I0 z.2.2.2.1 → FrL (wsL_X12_ownedBy) (fsL_X12_ownedBy) L0 z.2.2.2.2 → wpX12_ownedBy_h4 Q' z.1 z.2.1 z.2.2.1 z.2.2.2.1 z.2.2.2.2) ?_ h hF hL
  intro z P' hP' h hF hL
  obtain ⟨v1, v2, v3, I, L⟩ := z
  exact wpX12_ownedBy_h4_fold (mnX12_ownedBy_l4 hQ (fun v1 v2 v3 I L hF hL h9 => hP' (v1, v2, v3, I, L) h9 hF hL) hF hL h)
set_option maxRecDepth 10000 in
theorem mnX12_ownedBy {a1 : Int32} {I : Ix} {L : Lx} {Q Q' : Int32 → Ix → Lx → Prop} (hQ : ∀ (r : Int32) (I1 : Ix) (L1 : Lx), FrI (wsI_X12_ownedBy) (fsI_X12_ownedBy) I I1 → FrL (wsL_X12_ownedBy) (fsL_X12_ownedBy) L L1 → Q r I1 L1 → Q' r I1 L1) (h : wpX12_ownedBy a1 I L Q) : wpX12_ownedBy a1 I L Q' := by
  have hF : FrI (wsI_X12_ownedBy) (fsI_X12_ownedBy) I I := FrI.rf
  have hL : FrL (wsL_X12_ownedBy) (fsL_X12_ownedBy) L L := FrL.rf
  unfold wpX12_ownedBy at h ⊢
  exact mnX12_ownedBy_h4 hQ hF hL h
abbrev wsI_X12_person : List Nat := [157, 158, 129, 130]
abbrev wsL_X12_person : List Nat := []
abbrev fsI_X12_person : List (Nat × Nat) := [(120, 75)]
abbrev fsL_X12_person : List (Nat × Nat) := []
set_option maxRecDepth 10000 in
theorem mnX12_person {a1 : Int32} {a2 : Int32} {I : Ix} {L : Lx} {Q Q' : Int32 → Ix → Lx → Prop} (hQ : ∀ (r : Int32) (I1 : Ix) (L1 : Lx), FrI (wsI_X12_person) (fsI_X12_person) I I1 → FrL (wsL_X12_person) (fsL_X12_person) L L1 → Q r I1 L1 → Q' r I1 L1) (h : wpX12_person a1 a2 I L Q) : wpX12_person a1 a2 I L Q' := by
  have hF : FrI (wsI_X12_person) (fsI_X12_person) I I := FrI.rf
  have hL : FrL (wsL_X12_person) (fsL_X12_person) L L := FrL.rf
  unfold wpX12_person at h ⊢
  refine mnX12_isPerson (fun r3 I1 L2 hf hl h => ?_) h
  have hF := hF.tr hf (by decide) (by decide)
  have hL := hL.tr hl (by decide) (by decide)
  refine ⟨fun hc => ?_, fun hc => ?_⟩
  · have h := h.1 hc
    refine ⟨fun hc => ?_, fun hc => ?_, fun hc => ?_, fun hc => ?_, ?_⟩
    · have h := h.1 hc
      refine ⟨h.1, ?_⟩
      have h := h.2
      exact hQ _ _ _ hF hL h
    · have h := h.2.1 hc
      refine ⟨h.1, ?_⟩
      have h := h.2
      exact hQ _ _ _ hF hL h
    · have h := h.2.2.1 hc
      refine mnX12_ownedBy (fun r6 I4 L5 hf hl h => ?_) h
      have hF := hF.tr hf (by decide) (by decide)
      have hL := hL.tr hl (by decide) (by decide)
      exact hQ _ _ _ hF hL h
    · have h := h.2.2.2.1 hc
      refine mnX12_beginNoons (fun I7 L8 hf hl h => ?_) h
      have hF := hF.tr hf (by decide) (by decide)
      have hL := hL.tr hl (by decide) (by decide)
      refine ⟨h.1, ?_⟩
      have h := h.2
      refine mnX12_aimOf (fun r11 I9 L10 hf hl h => ?_) h
      have hF := hF.tr hf (by decide) (by decide)
      have hL := hL.tr hl (by decide) (by decide)
      exact hQ _ _ _ hF hL h
    · intro e0 e1 e2 e3
      have h := h.2.2.2.2 e0 e1 e2 e3
      exact hQ _ _ _ hF hL h
  · have h := h.2 hc
    exact hQ _ _ _ hF hL h
abbrev wsI_X12_give : List Nat := [143]
abbrev wsL_X12_give : List Nat := []
abbrev fsI_X12_give : List (Nat × Nat) := []
abbrev fsL_X12_give : List (Nat × Nat) := []
set_option maxRecDepth 10000 in
theorem mnX12_give_b32 {I0 : Ix} {L0 : Lx} {Q Q' : Bool → Ix → Lx → Prop} (hQ : ∀ (r : Bool) (I1 : Ix) (L1 : Lx), FrI (wsI_X12_give) (fsI_X12_give) I0 I1 → FrL (wsL_X12_give) (fsL_X12_give) L0 L1 → Q r I1 L1 → Q' r I1 L1) {v1 : Int32} {v2 : Int32} {I : Ix} {L : Lx} (hF : FrI (wsI_X12_give) (fsI_X12_give) I0 I) (hL : FrL (wsL_X12_give) (fsL_X12_give) L0 L) (h : wpX12_give_b32 Q v1 v2 I L) : wpX12_give_b32 Q' v1 v2 I L := by
  unfold wpX12_give_b32 at h ⊢
  refine ⟨h.1, ?_⟩
  have h := h.2
  intro I1 eI1
  have h := h I1 eI1
  have hF := hF.pw eI1 (by decide)
  exact hQ _ _ _ hF hL h
set_option maxRecDepth 10000 in
theorem mnX12_give {a1 : Int32} {a2 : Int32} {I : Ix} {L : Lx} {Q Q' : Bool → Ix → Lx → Prop} (hQ : ∀ (r : Bool) (I1 : Ix) (L1 : Lx), FrI (wsI_X12_give) (fsI_X12_give) I I1 → FrL (wsL_X12_give) (fsL_X12_give) L L1 → Q r I1 L1 → Q' r I1 L1) (h : wpX12_give a1 a2 I L Q) : wpX12_give a1 a2 I L Q' := by
  have hF : FrI (wsI_X12_give) (fsI_X12_give) I I := FrI.rf
  have hL : FrL (wsL_X12_give) (fsL_X12_give) L L := FrL.rf
  unfold wpX12_give at h ⊢
  refine mnX12_isThing (fun r3 I1 L2 hf hl h => ?_) h
  have hF := hF.tr hf (by decide) (by decide)
  have hL := hL.tr hl (by decide) (by decide)
  refine ⟨fun hc => ?_, fun hc => ?_⟩
  · have h := h.1 hc
    exact hQ _ _ _ hF hL h
  · have h := h.2 hc
    refine ⟨h.1, ?_⟩
    have h := h.2
    refine ⟨fun hc => ?_, fun hc => ?_⟩
    · have h := h.1 hc
      exact hQ _ _ _ hF hL h
    · have h := h.2 hc
      refine ⟨fun hc => ?_, fun hc => ?_⟩
      · have h := h.1 hc
        exact mnX12_give_b32 hQ hF hL h
      · have h := h.2 hc
        refine mnX12_isPerson (fun r6 I4 L5 hf hl h => ?_) h
        have hF := hF.tr hf (by decide) (by decide)
        have hL := hL.tr hl (by decide) (by decide)
        refine ⟨fun hc => ?_, fun hc => ?_⟩
        · have h := h.1 hc
          exact mnX12_give_b32 hQ hF hL h
        · have h := h.2 hc
          exact hQ _ _ _ hF hL h
abbrev wsI_X12_chip : List Nat := [146]
abbrev wsL_X12_chip : List Nat := []
abbrev fsI_X12_chip : List (Nat × Nat) := []
abbrev fsL_X12_chip : List (Nat × Nat) := []
set_option maxRecDepth 10000 in
theorem mnX12_chip {a1 : Int32} {a2 : Int32} {I : Ix} {L : Lx} {Q Q' : Int32 → Ix → Lx → Prop} (hQ : ∀ (r : Int32) (I1 : Ix) (L1 : Lx), FrI (wsI_X12_chip) (fsI_X12_chip) I I1 → FrL (wsL_X12_chip) (fsL_X12_chip) L L1 → Q r I1 L1 → Q' r I1 L1) (h : wpX12_chip a1 a2 I L Q) : wpX12_chip a1 a2 I L Q' := by
  have hF : FrI (wsI_X12_chip) (fsI_X12_chip) I I := FrI.rf
  have hL : FrL (wsL_X12_chip) (fsL_X12_chip) L L := FrL.rf
  unfold wpX12_chip at h ⊢
  refine mnX12_isThing (fun r3 I1 L2 hf hl h => ?_) h
  have hF := hF.tr hf (by decide) (by decide)
  have hL := hL.tr hl (by decide) (by decide)
  refine ⟨fun hc => ?_, fun hc => ?_⟩
  · have h := h.1 hc
    exact hQ _ _ _ hF hL h
  · have h := h.2 hc
    refine ⟨fun hc => ?_, fun hc => ?_⟩
    · have h := h.1 hc
      exact hQ _ _ _ hF hL h
    · have h := h.2 hc
      refine ⟨h.1, ?_⟩
      have h := h.2
      refine ⟨fun hc => ?_, fun hc => ?_⟩
      · have h := h.1 hc
        refine ⟨h.1, ?_⟩
        have h := h.2
        refine ⟨h.1, ?_⟩
        have h := h.2
        intro I4 eI4
        have h := h I4 eI4
        have hF := hF.pw eI4 (by decide)
        refine ⟨h.1, ?_⟩
        have h := h.2
        exact hQ _ _ _ hF hL h
      · have h := h.2 hc
        exact hQ _ _ _ hF hL h
abbrev wsI_X12_asks : List Nat := [157, 158, 129, 130]
abbrev wsL_X12_asks : List Nat := []
abbrev fsI_X12_asks : List (Nat × Nat) := [(120, 75)]
abbrev fsL_X12_asks : List (Nat × Nat) := []
set_option maxRecDepth 10000 in
theorem mnX12_asks {a1 : Int32} {a2 : Int32} {I : Ix} {L : Lx} {Q Q' : Int32 → Ix → Lx → Prop} (hQ : ∀ (r : Int32) (I1 : Ix) (L1 : Lx), FrI (wsI_X12_asks) (fsI_X12_asks) I I1 → FrL (wsL_X12_asks) (fsL_X12_asks) L L1 → Q r I1 L1 → Q' r I1 L1) (h : wpX12_asks a1 a2 I L Q) : wpX12_asks a1 a2 I L Q' := by
  have hF : FrI (wsI_X12_asks) (fsI_X12_asks) I I := FrI.rf
  have hL : FrL (wsL_X12_asks) (fsL_X12_asks) L L := FrL.rf
  unfold wpX12_asks at h ⊢
  refine mnX12_isPerson (fun r3 I1 L2 hf hl h => ?_) h
  have hF := hF.tr hf (by decide) (by decide)
  have hL := hL.tr hl (by decide) (by decide)
  refine ⟨fun hc => ?_, fun hc => ?_⟩
  · have h := h.1 hc
    exact hQ _ _ _ hF hL h
  · have h := h.2 hc
    refine mnX12_isThing (fun r6 I4 L5 hf hl h => ?_) h
    have hF := hF.tr hf (by decide) (by decide)
    have hL := hL.tr hl (by decide) (by decide)
    refine ⟨fun hc => ?_, fun hc => ?_⟩
    · have h := h.1 hc
      refine mnX12_beginNoons (fun I7 L8 hf hl h => ?_) h
      have hF := hF.tr hf (by decide) (by decide)
      have hL := hL.tr hl (by decide) (by decide)
      refine ⟨h.1, ?_⟩
      have h := h.2
      refine mnX12_asksOf (fun r11 I9 L10 hf hl h => ?_) h
      have hF := hF.tr hf (by decide) (by decide)
      have hL := hL.tr hl (by decide) (by decide)
      exact hQ _ _ _ hF hL h
    · have h := h.2 hc
      exact hQ _ _ _ hF hL h
abbrev wsI_X12_bring : List Nat := [147, 148, 143, 144, 145, 149]
abbrev wsL_X12_bring : List Nat := []
abbrev fsI_X12_bring : List (Nat × Nat) := [(120, 57), (120, 58), (120, 59), (120, 70)]
abbrev fsL_X12_bring : List (Nat × Nat) := []
set_option maxRecDepth 10000 in
theorem mnX12_bring_l64 {I0 : Ix} {L0 : Lx} {Q Q' : Ix → Lx → Prop} {P64 P64' : Int32 → Ix → Lx → Prop} (hQ : ∀ (I1 : Ix) (L1 : Lx), FrI (wsI_X12_bring) (fsI_X12_bring) I0 I1 → FrL (wsL_X12_bring) (fsL_X12_bring) L0 L1 → Q I1 L1 → Q' I1 L1) (hP64 : ∀ (v1 : Int32) (I1 : Ix) (L1 : Lx), FrI (wsI_X12_bring) (fsI_X12_bring) I0 I1 → FrL (wsL_X12_bring) (fsL_X12_bring) L0 L1 → P64 v1 I1 L1 → P64' v1 I1 L1) {v1 : Int32} {I : Ix} {L : Lx} (hF : FrI (wsI_X12_bring) (fsI_X12_bring) I0 I) (hL : FrL (wsL_X12_bring) (fsL_X12_bring) L0 L) (h : wpX12_bring_l64 Q P64 v1 I L) : wpX12_bring_l64 Q' P64' v1 I L := by
  unfold wpX12_bring_l64 at h ⊢
  refine ⟨fun hc => ?_, fun hc => ?_⟩
  · have h := h.1 hc
    intro I1 eI1
    have h := h I1 eI1
    have hF := hF.pf eI1 (by decide)
    intro I2 eI2
    have h := h I2 eI2
    have hF := hF.pf eI2 (by decide)
    intro I3 eI3
    have h := h I3 eI3
    have hF := hF.pf eI3 (by decide)
    intro I4 eI4
    have h := h I4 eI4
    have hF := hF.pf eI4 (by decide)
    exact hQ _ _ hF hL h
  · have h := h.2 hc
    refine ⟨h.1, ?_⟩
    have h := h.2
    refine ⟨h.1, ?_⟩
    have h := h.2
    intro I5 eI5
    have h := h I5 eI5
    have hF := hF.pw eI5 (by decide)
    refine ⟨h.1, ?_⟩
    have h := h.2
    refine ⟨h.1, ?_⟩
    have h := h.2
    intro I6 eI6
    have h := h I6 eI6
    have hF := hF.pw eI6 (by decide)
    exact hP64 _ _ _ hF hL h
set_option maxRecDepth 10000 in
theorem mnX12_bring_h64 {I0 : Ix} {L0 : Lx} {Q Q' : Ix → Lx → Prop} (hQ : ∀ (I1 : Ix) (L1 : Lx), FrI (wsI_X12_bring) (fsI_X12_bring) I0 I1 → FrL (wsL_X12_bring) (fsL_X12_bring) L0 L1 → Q I1 L1 → Q' I1 L1) {v1 : Int32} {I : Ix} {L : Lx} (hF : FrI (wsI_X12_bring) (fsI_X12_bring) I0 I) (hL : FrL (wsL_X12_bring) (fsL_X12_bring) L0 L) (h : wpX12_bring_h64 Q v1 I L) : wpX12_bring_h64 Q' v1 I L := by
  unfold wpX12_bring_h64 at h
  refine Lfp.ind (P := fun z => FrI (wsI_X12_bring) (fsI_X12_bring) I0 z.2.1 → FrL (wsL_X12_bring) (fsL_X12_bring) L0 z.2.2 → wpX12_bring_h64 Q' z.1 z.2.1 z.2.2) ?_ h hF hL
  intro z P' hP' h hF hL
  obtain ⟨v1, I, L⟩ := z
  exact wpX12_bring_h64_fold (mnX12_bring_l64 hQ (fun v1 I L hF hL h9 => hP' (v1, I, L) h9 hF hL) hF hL h)
set_option maxRecDepth 10000 in
theorem mnX12_bring_l2 {I0 : Ix} {L0 : Lx} {Q Q' : Ix → Lx → Prop} {P2 P2' : Int32 → Ix → Lx → Prop} (hQ : ∀ (I1 : Ix) (L1 : Lx), FrI (wsI_X12_bring) (fsI_X12_bring) I0 I1 → FrL (wsL_X12_bring) (fsL_X12_bring) L0 L1 → Q I1 L1 → Q' I1 L1) (hP2 : ∀ (v1 : Int32) (I1 : Ix) (L1 : Lx), FrI (wsI_X12_bring) (fsI_X12_bring) I0 I1 → FrL (wsL_X12_bring) (fsL_X12_bring) L0 L1 → P2 v1 I1 L1 → P2' v1 I1 L1) {v1 : Int32} {I : Ix} {L : Lx} (hF : FrI (wsI_X12_bring) (fsI_X12_bring) I0 I) (hL : FrL (wsL_X12_bring) (fsL_X12_bring) L0 L) (h : wpX12_bring_l2 Q P2 v1 I L) : wpX12_bring_l2 Q' P2' v1 I L := by
  unfold wpX12_bring_l2 at h ⊢
  refine ⟨fun hc => ?_, fun hc => ?_⟩
  · have h := h.1 hc
    exact mnX12_bring_h64 hQ hF hL h
  · have h := h.2 hc
    refine ⟨h.1, ?_⟩
    have h := h.2
    refine ⟨h.1, ?_⟩
    have h := h.2
    intro I1 eI1
    have h := h I1 eI1
    have hF := hF.pw eI1 (by decide)
    refine ⟨h.1, ?_⟩
    have h := h.2
    refine ⟨h.1, ?_⟩
    have h := h.2
    intro I2 eI2
    have h := h I2 eI2
    have hF := hF.pw eI2 (by decide)
    refine ⟨h.1, ?_⟩
    have h := h.2
    refine ⟨h.1, ?_⟩
    have h := h.2
    intro I3 eI3
    have h := h I3 eI3
    have hF := hF.pw eI3 (by decide)
    refine ⟨h.1, ?_⟩
    have h := h.2
    refine ⟨h.1, ?_⟩
    have h := h.2
    intro I4 eI4
    have h := h I4 eI4
    have hF := hF.pw eI4 (by decide)
    exact hP2 _ _ _ hF hL h
set_option maxRecDepth 10000 in
theorem mnX12_bring_h2 {I0 : Ix} {L0 : Lx} {Q Q' : Ix → Lx → Prop} (hQ : ∀ (I1 : Ix) (L1 : Lx), FrI (wsI_X12_bring) (fsI_X12_bring) I0 I1 → FrL (wsL_X12_bring) (fsL_X12_bring) L0 L1 → Q I1 L1 → Q' I1 L1) {v1 : Int32} {I : Ix} {L : Lx} (hF : FrI (wsI_X12_bring) (fsI_X12_bring) I0 I) (hL : FrL (wsL_X12_bring) (fsL_X12_bring) L0 L) (h : wpX12_bring_h2 Q v1 I L) : wpX12_bring_h2 Q' v1 I L := by
  unfold wpX12_bring_h2 at h
  refine Lfp.ind (P := fun z => FrI (wsI_X12_bring) (fsI_X12_bring) I0 z.2.1 → FrL (wsL_X12_bring) (fsL_X12_bring) L0 z.2.2 → wpX12_bring_h2 Q' z.1 z.2.1 z.2.2) ?_ h hF hL
  intro z P' hP' h hF hL
  obtain ⟨v1, I, L⟩ := z
  exact wpX12_bring_h2_fold (mnX12_bring_l2 hQ (fun v1 I L hF hL h9 => hP' (v1, I, L) h9 hF hL) hF hL h)
set_option maxRecDepth 10000 in
theorem mnX12_bring {I : Ix} {L : Lx} {Q Q' : Ix → Lx → Prop} (hQ : ∀ (I1 : Ix) (L1 : Lx), FrI (wsI_X12_bring) (fsI_X12_bring) I I1 → FrL (wsL_X12_bring) (fsL_X12_bring) L L1 → Q I1 L1 → Q' I1 L1) (h : wpX12_bring I L Q) : wpX12_bring I L Q' := by
  have hF : FrI (wsI_X12_bring) (fsI_X12_bring) I I := FrI.rf
  have hL : FrL (wsL_X12_bring) (fsL_X12_bring) L L := FrL.rf
  unfold wpX12_bring at h ⊢
  exact mnX12_bring_h2 hQ hF hL h
abbrev wsI_X12_put : List Nat := [154, 155, 151, 152, 153, 156]
abbrev wsL_X12_put : List Nat := []
abbrev fsI_X12_put : List (Nat × Nat) := [(120, 67), (120, 68), (120, 69), (120, 70)]
abbrev fsL_X12_put : List (Nat × Nat) := []
set_option maxRecDepth 10000 in
theorem mnX12_put_l64 {I0 : Ix} {L0 : Lx} {Q Q' : Ix → Lx → Prop} {P64 P64' : Int32 → Ix → Lx → Prop} (hQ : ∀ (I1 : Ix) (L1 : Lx), FrI (wsI_X12_put) (fsI_X12_put) I0 I1 → FrL (wsL_X12_put) (fsL_X12_put) L0 L1 → Q I1 L1 → Q' I1 L1) (hP64 : ∀ (v1 : Int32) (I1 : Ix) (L1 : Lx), FrI (wsI_X12_put) (fsI_X12_put) I0 I1 → FrL (wsL_X12_put) (fsL_X12_put) L0 L1 → P64 v1 I1 L1 → P64' v1 I1 L1) {v1 : Int32} {I : Ix} {L : Lx} (hF : FrI (wsI_X12_put) (fsI_X12_put) I0 I) (hL : FrL (wsL_X12_put) (fsL_X12_put) L0 L) (h : wpX12_put_l64 Q P64 v1 I L) : wpX12_put_l64 Q' P64' v1 I L := by
  unfold wpX12_put_l64 at h ⊢
  refine ⟨fun hc => ?_, fun hc => ?_⟩
  · have h := h.1 hc
    intro I1 eI1
    have h := h I1 eI1
    have hF := hF.pf eI1 (by decide)
    intro I2 eI2
    have h := h I2 eI2
    have hF := hF.pf eI2 (by decide)
    intro I3 eI3
    have h := h I3 eI3
    have hF := hF.pf eI3 (by decide)
    intro I4 eI4
    have h := h I4 eI4
    have hF := hF.pf eI4 (by decide)
    exact hQ _ _ hF hL h
  · have h := h.2 hc
    refine ⟨h.1, ?_⟩
    have h := h.2
    refine ⟨h.1, ?_⟩
    have h := h.2
    intro I5 eI5
    have h := h I5 eI5
    have hF := hF.pw eI5 (by decide)
    refine ⟨h.1, ?_⟩
    have h := h.2
    refine ⟨h.1, ?_⟩
    have h := h.2
    intro I6 eI6
    have h := h I6 eI6
    have hF := hF.pw eI6 (by decide)
    exact hP64 _ _ _ hF hL h
set_option maxRecDepth 10000 in
theorem mnX12_put_h64 {I0 : Ix} {L0 : Lx} {Q Q' : Ix → Lx → Prop} (hQ : ∀ (I1 : Ix) (L1 : Lx), FrI (wsI_X12_put) (fsI_X12_put) I0 I1 → FrL (wsL_X12_put) (fsL_X12_put) L0 L1 → Q I1 L1 → Q' I1 L1) {v1 : Int32} {I : Ix} {L : Lx} (hF : FrI (wsI_X12_put) (fsI_X12_put) I0 I) (hL : FrL (wsL_X12_put) (fsL_X12_put) L0 L) (h : wpX12_put_h64 Q v1 I L) : wpX12_put_h64 Q' v1 I L := by
  unfold wpX12_put_h64 at h
  refine Lfp.ind (P := fun z => FrI (wsI_X12_put) (fsI_X12_put) I0 z.2.1 → FrL (wsL_X12_put) (fsL_X12_put) L0 z.2.2 → wpX12_put_h64 Q' z.1 z.2.1 z.2.2) ?_ h hF hL
  intro z P' hP' h hF hL
  obtain ⟨v1, I, L⟩ := z
  exact wpX12_put_h64_fold (mnX12_put_l64 hQ (fun v1 I L hF hL h9 => hP' (v1, I, L) h9 hF hL) hF hL h)
set_option maxRecDepth 10000 in
theorem mnX12_put_l2 {I0 : Ix} {L0 : Lx} {Q Q' : Ix → Lx → Prop} {P2 P2' : Int32 → Ix → Lx → Prop} (hQ : ∀ (I1 : Ix) (L1 : Lx), FrI (wsI_X12_put) (fsI_X12_put) I0 I1 → FrL (wsL_X12_put) (fsL_X12_put) L0 L1 → Q I1 L1 → Q' I1 L1) (hP2 : ∀ (v1 : Int32) (I1 : Ix) (L1 : Lx), FrI (wsI_X12_put) (fsI_X12_put) I0 I1 → FrL (wsL_X12_put) (fsL_X12_put) L0 L1 → P2 v1 I1 L1 → P2' v1 I1 L1) {v1 : Int32} {I : Ix} {L : Lx} (hF : FrI (wsI_X12_put) (fsI_X12_put) I0 I) (hL : FrL (wsL_X12_put) (fsL_X12_put) L0 L) (h : wpX12_put_l2 Q P2 v1 I L) : wpX12_put_l2 Q' P2' v1 I L := by
  unfold wpX12_put_l2 at h ⊢
  refine ⟨fun hc => ?_, fun hc => ?_⟩
  · have h := h.1 hc
    exact mnX12_put_h64 hQ hF hL h
  · have h := h.2 hc
    refine ⟨h.1, ?_⟩
    have h := h.2
    refine ⟨h.1, ?_⟩
    have h := h.2
    intro I1 eI1
    have h := h I1 eI1
    have hF := hF.pw eI1 (by decide)
    refine ⟨h.1, ?_⟩
    have h := h.2
    refine ⟨h.1, ?_⟩
    have h := h.2
    intro I2 eI2
    have h := h I2 eI2
    have hF := hF.pw eI2 (by decide)
    refine ⟨h.1, ?_⟩
    have h := h.2
    refine ⟨h.1, ?_⟩
    have h := h.2
    intro I3 eI3
    have h := h I3 eI3
    have hF := hF.pw eI3 (by decide)
    refine ⟨h.1, ?_⟩
    have h := h.2
    refine ⟨h.1, ?_⟩
    have h := h.2
    intro I4 eI4
    have h := h I4 eI4
    have hF := hF.pw eI4 (by decide)
    exact hP2 _ _ _ hF hL h
set_option maxRecDepth 10000 in
theorem mnX12_put_h2 {I0 : Ix} {L0 : Lx} {Q Q' : Ix → Lx → Prop} (hQ : ∀ (I1 : Ix) (L1 : Lx), FrI (wsI_X12_put) (fsI_X12_put) I0 I1 → FrL (wsL_X12_put) (fsL_X12_put) L0 L1 → Q I1 L1 → Q' I1 L1) {v1 : Int32} {I : Ix} {L : Lx} (hF : FrI (wsI_X12_put) (fsI_X12_put) I0 I) (hL : FrL (wsL_X12_put) (fsL_X12_put) L0 L) (h : wpX12_put_h2 Q v1 I L) : wpX12_put_h2 Q' v1 I L := by
  unfold wpX12_put_h2 at h
  refine Lfp.ind (P := fun z => FrI (wsI_X12_put) (fsI_X12_put) I0 z.2.1 → FrL (wsL_X12_put) (fsL_X12_put) L0 z.2.2 → wpX12_put_h2 Q' z.1 z.2.1 z.2.2) ?_ h hF hL
  intro z P' hP' h hF hL
  obtain ⟨v1, I, L⟩ := z
  exact wpX12_put_h2_fold (mnX12_put_l2 hQ (fun v1 I L hF hL h9 => hP' (v1, I, L) h9 hF hL) hF hL h)
set_option maxRecDepth 10000 in
theorem mnX12_put {I : Ix} {L : Lx} {Q Q' : Ix → Lx → Prop} (hQ : ∀ (I1 : Ix) (L1 : Lx), FrI (wsI_X12_put) (fsI_X12_put) I I1 → FrL (wsL_X12_put) (fsL_X12_put) L L1 → Q I1 L1 → Q' I1 L1) (h : wpX12_put I L Q) : wpX12_put I L Q' := by
  have hF : FrI (wsI_X12_put) (fsI_X12_put) I I := FrI.rf
  have hL : FrL (wsL_X12_put) (fsL_X12_put) L L := FrL.rf
  unfold wpX12_put at h ⊢
  exact mnX12_put_h2 hQ hF hL h
abbrev wsI_X12_seekThen : List Nat := [147, 148, 143, 144, 145, 149, 154, 155, 151, 152, 153, 156, 160, 159, 129, 130, 157, 158]
abbrev wsL_X12_seekThen : List Nat := []
abbrev fsI_X12_seekThen : List (Nat × Nat) := [(120, 79), (120, 57), (120, 80), (120, 76), (120, 77), (120, 78), (120, 58), (120, 59), (120, 70), (120, 67), (120, 68), (120, 69), (120, 75)]
abbrev fsL_X12_seekThen : List (Nat × Nat) := []
set_option maxRecDepth 10000 in
theorem mnX12_seekThen_b79 {I0 : Ix} {L0 : Lx} {Q Q' : Ix → Lx → Prop} (hQ : ∀ (I1 : Ix) (L1 : Lx), FrI (wsI_X12_seekThen) (fsI_X12_seekThen) I0 I1 → FrL (wsL_X12_seekThen) (fsL_X12_seekThen) L0 L1 → Q I1 L1 → Q' I1 L1) {t1 : Int32} {I : Ix} {L : Lx} (hF : FrI (wsI_X12_seekThen) (fsI_X12_seekThen) I0 I) (hL : FrL (wsL_X12_seekThen) (fsL_X12_seekThen) L0 L) (h : wpX12_seekThen_b79 Q t1 I L) : wpX12_seekThen_b79 Q' t1 I L := by
  unfold wpX12_seekThen_b79 at h ⊢
  intro I1 eI1
  have h := h I1 eI1
  have hF := hF.pf eI1 (by decide)
  refine mnX12_bring (fun I2 L3 hf hl h => ?_) h
  have hF := hF.tr hf (by decide) (by decide)
  have hL := hL.tr hl (by decide) (by decide)
  exact hQ _ _ hF hL h
set_option maxRecDepth 10000 in
theorem mnX12_seekThen {a1 : Int32} {a2 : Int32} {I : Ix} {L : Lx} {Q Q' : Ix → Lx → Prop} (hQ : ∀ (I1 : Ix) (L1 : Lx), FrI (wsI_X12_seekThen) (fsI_X12_seekThen) I I1 → FrL (wsL_X12_seekThen) (fsL_X12_seekThen) L L1 → Q I1 L1 → Q' I1 L1) (h : wpX12_seekThen a1 a2 I L Q) : wpX12_seekThen a1 a2 I L Q' := by
  have hF : FrI (wsI_X12_seekThen) (fsI_X12_seekThen) I I := FrI.rf
  have hL : FrL (wsL_X12_seekThen) (fsL_X12_seekThen) L L := FrL.rf
  unfold wpX12_seekThen at h ⊢
  refine mnX12_put (fun I1 L2 hf hl h => ?_) h
  have hF := hF.tr hf (by decide) (by decide)
  have hL := hL.tr hl (by decide) (by decide)
  intro I3 eI3
  have h := h I3 eI3
  have hF := hF.pf eI3 (by decide)
  refine mnX12_useAndMend (fun I4 L5 hf hl h => ?_) h
  have hF := hF.tr hf (by decide) (by decide)
  have hL := hL.tr hl (by decide) (by decide)
  refine ⟨h.1, ?_⟩
  have h := h.2
  refine ⟨h.1, ?_⟩
  have h := h.2
  intro I6 eI6
  have h := h I6 eI6
  have hF := hF.pf eI6 (by decide)
  intro I7 eI7
  have h := h I7 eI7
  have hF := hF.pf eI7 (by decide)
  intro I8 eI8
  have h := h I8 eI8
  have hF := hF.pf eI8 (by decide)
  refine mnX12_doNoons (fun I9 L10 hf hl h => ?_) h
  have hF := hF.tr hf (by decide) (by decide)
  have hL := hL.tr hl (by decide) (by decide)
  intro I11 eI11
  have h := h I11 eI11
  have hF := hF.pf eI11 (by decide)
  refine ⟨h.1, ?_⟩
  have h := h.2
  intro I12 eI12
  have h := h I12 eI12
  have hF := hF.pf eI12 (by decide)
  refine ⟨fun hc => ?_, fun hc => ?_⟩
  · have h := h.1 hc
    exact mnX12_seekThen_b79 hQ hF hL h
  · have h := h.2 hc
    exact mnX12_seekThen_b79 hQ hF hL h
abbrev wsI_X12_sixtieths : List Nat := []
abbrev wsL_X12_sixtieths : List Nat := []
abbrev fsI_X12_sixtieths : List (Nat × Nat) := []
abbrev fsL_X12_sixtieths : List (Nat × Nat) := []
set_option maxRecDepth 10000 in
theorem mnX12_sixtieths {a1 : Int32} {I : Ix} {L : Lx} {Q Q' : Int32 → Ix → Lx → Prop} (hQ : ∀ (r : Int32) (I1 : Ix) (L1 : Lx), FrI (wsI_X12_sixtieths) (fsI_X12_sixtieths) I I1 → FrL (wsL_X12_sixtieths) (fsL_X12_sixtieths) L L1 → Q r I1 L1 → Q' r I1 L1) (h : wpX12_sixtieths a1 I L Q) : wpX12_sixtieths a1 I L Q' := by
  have hF : FrI (wsI_X12_sixtieths) (fsI_X12_sixtieths) I I := FrI.rf
  have hL : FrL (wsL_X12_sixtieths) (fsL_X12_sixtieths) L L := FrL.rf
  unfold wpX12_sixtieths at h ⊢
  refine ⟨fun hc => ?_, fun hc => ?_⟩
  · have h := h.1 hc
    refine ⟨fun hc => ?_, fun hc => ?_⟩
    · have h := h.1 hc
      exact hQ _ _ _ hF hL h
    · have h := h.2 hc
      refine ⟨fun hc => ?_, fun hc => ?_⟩
      · have h := h.1 hc
        exact hQ _ _ _ hF hL h
      · have h := h.2 hc
        refine mnX12_ones (fun r3 I1 L2 hf hl h => ?_) h
        have hF := hF.tr hf (by decide) (by decide)
        have hL := hL.tr hl (by decide) (by decide)
        refine ⟨h.1, ?_⟩
        have h := h.2
        exact hQ _ _ _ hF hL h
  · have h := h.2 hc
    refine ⟨fun hc => ?_, fun hc => ?_⟩
    · have h := h.1 hc
      exact hQ _ _ _ hF hL h
    · have h := h.2 hc
      exact hQ _ _ _ hF hL h
abbrev wsI_X12_chanceIn : List Nat := [147, 148, 143, 144, 145, 149, 154, 155, 151, 152, 153, 156, 160, 159, 129, 130, 157, 158]
abbrev wsL_X12_chanceIn : List Nat := []
abbrev fsI_X12_chanceIn : List (Nat × Nat) := [(120, 79), (120, 57), (120, 80), (120, 76), (120, 77), (120, 78), (120, 58), (120, 59), (120, 70), (120, 67), (120, 68), (120, 69), (120, 75)]
abbrev fsL_X12_chanceIn : List (Nat × Nat) := []
set_option maxRecDepth 10000 in
theorem mnX12_chanceIn {a1 : Int32} {a2 : Int32} {I : Ix} {L : Lx} {Q Q' : Int32 → Ix → Lx → Prop} (hQ : ∀ (r : Int32) (I1 : Ix) (L1 : Lx), FrI (wsI_X12_chanceIn) (fsI_X12_chanceIn) I I1 → FrL (wsL_X12_chanceIn) (fsL_X12_chanceIn) L L1 → Q r I1 L1 → Q' r I1 L1) (h : wpX12_chanceIn a1 a2 I L Q) : wpX12_chanceIn a1 a2 I L Q' := by
  have hF : FrI (wsI_X12_chanceIn) (fsI_X12_chanceIn) I I := FrI.rf
  have hL : FrL (wsL_X12_chanceIn) (fsL_X12_chanceIn) L L := FrL.rf
  unfold wpX12_chanceIn at h ⊢
  refine mnX12_seekThen (fun I1 L2 hf hl h => ?_) h
  have hF := hF.tr hf (by decide) (by decide)
  have hL := hL.tr hl (by decide) (by decide)
  refine ⟨fun hc => ?_, fun hc => ?_⟩
  · have h := h.1 hc
    refine mnX12_sixtieths (fun r5 I3 L4 hf hl h => ?_) h
    have hF := hF.tr hf (by decide) (by decide)
    have hL := hL.tr hl (by decide) (by decide)
    refine mnX12_seekThen (fun I6 L7 hf hl h => ?_) h
    have hF := hF.tr hf (by decide) (by decide)
    have hL := hL.tr hl (by decide) (by decide)
    refine mnX12_sixtieths (fun r10 I8 L9 hf hl h => ?_) h
    have hF := hF.tr hf (by decide) (by decide)
    have hL := hL.tr hl (by decide) (by decide)
    exact hQ _ _ _ hF hL h
  · have h := h.2 hc
    exact hQ _ _ _ hF hL h
abbrev wsI_X12_common : List Nat := []
abbrev wsL_X12_common : List Nat := []
abbrev fsI_X12_common : List (Nat × Nat) := []
abbrev fsL_X12_common : List (Nat × Nat) := []
set_option maxRecDepth 10000 in
theorem mnX12_common_l6 {I0 : Ix} {L0 : Lx} {Q Q' : Int64 → Ix → Lx → Prop} {P6 P6' : Int64 → Int64 → Ix → Lx → Prop} (hQ : ∀ (r : Int64) (I1 : Ix) (L1 : Lx), FrI (wsI_X12_common) (fsI_X12_common) I0 I1 → FrL (wsL_X12_common) (fsL_X12_common) L0 L1 → Q r I1 L1 → Q' r I1 L1) (hP6 : ∀ (v4 : Int64) (v6 : Int64) (I1 : Ix) (L1 : Lx), FrI (wsI_X12_common) (fsI_X12_common) I0 I1 → FrL (wsL_X12_common) (fsL_X12_common) L0 L1 → P6 v4 v6 I1 L1 → P6' v4 v6 I1 L1) {v4 : Int64} {v6 : Int64} {I : Ix} {L : Lx} (hF : FrI (wsI_X12_common) (fsI_X12_common) I0 I) (hL : FrL (wsL_X12_common) (fsL_X12_common) L0 L) (h : wpX12_common_l6 Q P6 v4 v6 I L) : wpX12_common_l6 Q' P6' v4 v6 I L := by
  unfold wpX12_common_l6 at h ⊢
  refine ⟨fun hc => ?_, fun hc => ?_⟩
  · have h := h.1 hc
    exact hQ _ _ _ hF hL h
  · have h := h.2 hc
    refine ⟨h.1, ?_⟩
    have h := h.2
    exact hP6 _ _ _ _ hF hL h
set_option maxRecDepth 10000 in
theorem mnX12_common_h6 {I0 : Ix} {L0 : Lx} {Q Q' : Int64 → Ix → Lx → Prop} (hQ : ∀ (r : Int64) (I1 : Ix) (L1 : Lx), FrI (wsI_X12_common) (fsI_X12_common) I0 I1 → FrL (wsL_X12_common) (fsL_X12_common) L0 L1 → Q r I1 L1 → Q' r I1 L1) {v4 : Int64} {v6 : Int64} {I : Ix} {L : Lx} (hF : FrI (wsI_X12_common) (fsI_X12_common) I0 I) (hL : FrL (wsL_X12_common) (fsL_X12_common) L0 L) (h : wpX12_common_h6 Q v4 v6 I L) : wpX12_common_h6 Q' v4 v6 I L := by
  unfold wpX12_common_h6 at h
  refine Lfp.ind (P := fun z => FrI (wsI_X12_common) (fsI_X12_common) I0 z.2.2.1 → FrL (wsL_X12_common) (fsL_X12_common) L0 z.2.2.2 → wpX12_common_h6 Q' z.1 z.2.1 z.2.2.1 z.2.2.2) ?_ h hF hL
  intro z P' hP' h hF hL
  obtain ⟨v4, v6, I, L⟩ := z
  exact wpX12_common_h6_fold (mnX12_common_l6 hQ (fun v4 v6 I L hF hL h9 => hP' (v4, v6, I, L) h9 hF hL) hF hL h)
set_option maxRecDepth 10000 in
theorem mnX12_common {a0 : Int64} {a2 : Int64} {I : Ix} {L : Lx} {Q Q' : Int64 → Ix → Lx → Prop} (hQ : ∀ (r : Int64) (I1 : Ix) (L1 : Lx), FrI (wsI_X12_common) (fsI_X12_common) I I1 → FrL (wsL_X12_common) (fsL_X12_common) L L1 → Q r I1 L1 → Q' r I1 L1) (h : wpX12_common a0 a2 I L Q) : wpX12_common a0 a2 I L Q' := by
  have hF : FrI (wsI_X12_common) (fsI_X12_common) I I := FrI.rf
  have hL : FrL (wsL_X12_common) (fsL_X12_common) L L := FrL.rf
  unfold wpX12_common at h ⊢
  exact mnX12_common_h6 hQ hF hL h
abbrev wsI_X12_chance : List Nat := [147, 148, 143, 144, 145, 149, 154, 155, 151, 152, 153, 156, 160, 159, 129, 130, 157, 158]
abbrev wsL_X12_chance : List Nat := []
abbrev fsI_X12_chance : List (Nat × Nat) := [(120, 79), (120, 57), (120, 80), (120, 76), (120, 77), (120, 78), (120, 58), (120, 59), (120, 70), (120, 67), (120, 68), (120, 69), (120, 75)]
abbrev fsL_X12_chance : List (Nat × Nat) := []
set_option maxRecDepth 10000 in
theorem mnX12_chance_b21 {I0 : Ix} {L0 : Lx} {Q Q' : Int32 → Ix → Lx → Prop} (hQ : ∀ (r : Int32) (I1 : Ix) (L1 : Lx), FrI (wsI_X12_chance) (fsI_X12_chance) I0 I1 → FrL (wsL_X12_chance) (fsL_X12_chance) L0 L1 → Q r I1 L1 → Q' r I1 L1) {v1 : Int32} {v2 : Int32} {v3 : Int32} {I : Ix} {L : Lx} (hF : FrI (wsI_X12_chance) (fsI_X12_chance) I0 I) (hL : FrL (wsL_X12_chance) (fsL_X12_chance) L0 L) (h : wpX12_chance_b21 Q v1 v2 v3 I L) : wpX12_chance_b21 Q' v1 v2 v3 I L := by
  unfold wpX12_chance_b21 at h ⊢
  refine ⟨fun hc => ?_, fun hc => ?_⟩
  · have h := h.1 hc
    exact hQ _ _ _ hF hL h
  · have h := h.2 hc
    refine ⟨fun hc => ?_, fun hc => ?_⟩
    · have h := h.1 hc
      refine mnX12_chanceIn (fun r3 I1 L2 hf hl h => ?_) h
      have hF := hF.tr hf (by decide) (by decide)
      have hL := hL.tr hl (by decide) (by decide)
      refine ⟨fun hc => ?_, fun hc => ?_⟩
      · have h := h.1 hc
        refine mnX12_common (fun r6 I4 L5 hf hl h => ?_) h
        have hF := hF.tr hf (by decide) (by decide)
        have hL := hL.tr hl (by decide) (by decide)
        refine ⟨fun hc => ?_, fun hc => ?_⟩
        · have h := h.1 hc
          refine ⟨h.1, ?_⟩
          have h := h.2
          exact hQ _ _ _ hF hL h
        · have h := h.2 hc
          refine ⟨h.1, ?_⟩
          have h := h.2
          exact hQ _ _ _ hF hL h
      · have h := h.2 hc
        exact hQ _ _ _ hF hL h
    · have h := h.2 hc
      exact hQ _ _ _ hF hL h
set_option maxRecDepth 10000 in
theorem mnX12_chance {a1 : Int32} {a2 : Int32} {a3 : Int32} {I : Ix} {L : Lx} {Q Q' : Int32 → Ix → Lx → Prop} (hQ : ∀ (r : Int32) (I1 : Ix) (L1 : Lx), FrI (wsI_X12_chance) (fsI_X12_chance) I I1 → FrL (wsL_X12_chance) (fsL_X12_chance) L L1 → Q r I1 L1 → Q' r I1 L1) (h : wpX12_chance a1 a2 a3 I L Q) : wpX12_chance a1 a2 a3 I L Q' := by
  have hF : FrI (wsI_X12_chance) (fsI_X12_chance) I I := FrI.rf
  have hL : FrL (wsL_X12_chance) (fsL_X12_chance) L L := FrL.rf
  unfold wpX12_chance at h ⊢
  refine mnX12_isThing (fun r3 I1 L2 hf hl h => ?_) h
  have hF := hF.tr hf (by decide) (by decide)
  have hL := hL.tr hl (by decide) (by decide)
  refine ⟨fun hc => ?_, fun hc => ?_⟩
  · have h := h.1 hc
    exact hQ _ _ _ hF hL h
  · have h := h.2 hc
    refine ⟨fun hc => ?_, fun hc => ?_⟩
    · have h := h.1 hc
      exact mnX12_chance_b21 hQ hF hL h
    · have h := h.2 hc
      refine mnX12_isPerson (fun r6 I4 L5 hf hl h => ?_) h
      have hF := hF.tr hf (by decide) (by decide)
      have hL := hL.tr hl (by decide) (by decide)
      refine ⟨fun hc => ?_, fun hc => ?_⟩
      · have h := h.1 hc
        exact hQ _ _ _ hF hL h
      · have h := h.2 hc
        exact mnX12_chance_b21 hQ hF hL h
abbrev wsI_X12_keeps : List Nat := [146, 147, 148, 143, 144, 145, 149, 154, 155, 151, 152, 153, 156, 160, 159, 129, 130, 157, 158]
abbrev wsL_X12_keeps : List Nat := []
abbrev fsI_X12_keeps : List (Nat × Nat) := [(120, 79), (120, 57), (120, 80), (120, 76), (120, 77), (120, 78), (120, 58), (120, 59), (120, 70), (120, 67), (120, 68), (120, 69), (120, 75)]
abbrev fsL_X12_keeps : List (Nat × Nat) := []
set_option maxRecDepth 10000 in
theorem mnX12_keeps_b81 {I0 : Ix} {L0 : Lx} {Q Q' : Int32 → Ix → Lx → Prop} (hQ : ∀ (r : Int32) (I1 : Ix) (L1 : Lx), FrI (wsI_X12_keeps) (fsI_X12_keeps) I0 I1 → FrL (wsL_X12_keeps) (fsL_X12_keeps) L0 L1 → Q r I1 L1 → Q' r I1 L1) {v1 : Int32} {v2 : Int32} {v3 : Int32} {I : Ix} {L : Lx} (hF : FrI (wsI_X12_keeps) (fsI_X12_keeps) I0 I) (hL : FrL (wsL_X12_keeps) (fsL_X12_keeps) L0 L) (h : wpX12_keeps_b81 Q v1 v2 v3 I L) : wpX12_keeps_b81 Q' v1 v2 v3 I L := by
  unfold wpX12_keeps_b81 at h ⊢
  refine ⟨h.1, ?_⟩
  have h := h.2
  intro I1 eI1
  have h := h I1 eI1
  have hF := hF.pw eI1 (by decide)
  exact hQ _ _ _ hF hL h
set_option maxRecDepth 10000 in
theorem mnX12_keeps_l31 {I0 : Ix} {L0 : Lx} {Q Q' : Int32 → Ix → Lx → Prop} {P31 P31' : Int32 → Int32 → Int32 → Int32 → Ix → Lx → Prop} (hQ : ∀ (r : Int32) (I1 : Ix) (L1 : Lx), FrI (wsI_X12_keeps) (fsI_X12_keeps) I0 I1 → FrL (wsL_X12_keeps) (fsL_X12_keeps) L0 L1 → Q r I1 L1 → Q' r I1 L1) (hP31 : ∀ (v1 : Int32) (v2 : Int32) (v3 : Int32) (v4 : Int32) (I1 : Ix) (L1 : Lx), FrI (wsI_X12_keeps) (fsI_X12_keeps) I0 I1 → FrL (wsL_X12_keeps) (fsL_X12_keeps) L0 L1 → P31 v1 v2 v3 v4 I1 L1 → P31' v1 v2 v3 v4 I1 L1) {v1 : Int32} {v2 : Int32} {v3 : Int32} {v4 : Int32} {I : Ix} {L : Lx} (hF : FrI (wsI_X12_keeps) (fsI_X12_keeps) I0 I) (hL : FrL (wsL_X12_keeps) (fsL_X12_keeps) L0 L) (h : wpX12_keeps_l31 Q P31 v1 v2 v3 v4 I L) : wpX12_keeps_l31 Q' P31' v1 v2 v3 v4 I L := by
  unfold wpX12_keeps_l31 at h ⊢
  refine ⟨fun hc => ?_, fun hc => ?_⟩
  · have h := h.1 hc
    exact mnX12_keeps_b81 hQ hF hL h
  · have h := h.2 hc
    refine ⟨fun hc => ?_, fun hc => ?_⟩
    · have h := h.1 hc
      exact mnX12_keeps_b81 hQ hF hL h
    · have h := h.2 hc
      refine ⟨h.1, ?_⟩
      have h := h.2
      intro I1 eI1
      have h := h I1 eI1
      have hF := hF.pw eI1 (by decide)
      refine ⟨h.1, ?_⟩
      have h := h.2
      refine mnX12_chanceIn (fun r4 I2 L3 hf hl h => ?_) h
      have hF := hF.tr hf (by decide) (by decide)
      have hL := hL.tr hl (by decide) (by decide)
      refine ⟨fun hc => ?_, fun hc => ?_⟩
      · have h := h.1 hc
        exact hP31 _ _ _ _ _ _ hF hL h
      · have h := h.2 hc
        exact hP31 _ _ _ _ _ _ hF hL h
set_option maxRecDepth 10000 in
theorem mnX12_keeps_h31 {I0 : Ix} {L0 : Lx} {Q Q' : Int32 → Ix → Lx → Prop} (hQ : ∀ (r : Int32) (I1 : Ix) (L1 : Lx), FrI (wsI_X12_keeps) (fsI_X12_keeps) I0 I1 → FrL (wsL_X12_keeps) (fsL_X12_keeps) L0 L1 → Q r I1 L1 → Q' r I1 L1) {v1 : Int32} {v2 : Int32} {v3 : Int32} {v4 : Int32} {I : Ix} {L : Lx} (hF : FrI (wsI_X12_keeps) (fsI_X12_keeps) I0 I) (hL : FrL (wsL_X12_keeps) (fsL_X12_keeps) L0 L) (h : wpX12_keeps_h31 Q v1 v2 v3 v4 I L) : wpX12_keeps_h31 Q' v1 v2 v3 v4 I L := by
  unfold wpX12_keeps_h31 at h
  refine Lfp.ind (P := fun z => FrI (wsI_X12_keeps) (fsI_X12_keeps) I0 z.2.2.2.2.1 → FrL (wsL_X12_keeps) (fsL_X12_keeps) L0 z.2.2.2.2.2 → wpX12_keeps_h31 Q' z.1 z.2.1 z.2.2.1 z.2.2.2.1 z.2.2.2.2.1 z.2.2.2.2.2) ?_ h hF hL
  intro z P' hP' h hF hL
  obtain ⟨v1, v2, v3, v4, I, L⟩ := z
  exact wpX12_keeps_h31_fold (mnX12_keeps_l31 hQ (fun v1 v2 v3 v4 I L hF hL h9 => hP' (v1, v2, v3, v4, I, L) h9 hF hL) hF hL h)
set_option maxRecDepth 10000 in
theorem mnX12_keeps {a1 : Int32} {I : Ix} {L : Lx} {Q Q' : Int32 → Ix → Lx → Prop} (hQ : ∀ (r : Int32) (I1 : Ix) (L1 : Lx), FrI (wsI_X12_keeps) (fsI_X12_keeps) I I1 → FrL (wsL_X12_keeps) (fsL_X12_keeps) L L1 → Q r I1 L1 → Q' r I1 L1) (h : wpX12_keeps a1 I L Q) : wpX12_keeps a1 I L Q' := by
  have hF : FrI (wsI_X12_keeps) (fsI_X12_keeps) I I := FrI.rf
  have hL : FrL (wsL_X12_keeps) (fsL_X12_keeps) L L := FrL.rf
  unfold wpX12_keeps at h ⊢
  refine mnX12_isThing (fun r3 I1 L2 hf hl h => ?_) h
  have hF := hF.tr hf (by decide) (by decide)
  have hL := hL.tr hl (by decide) (by decide)
  refine ⟨fun hc => ?_, fun hc => ?_⟩
  · have h := h.1 hc
    exact hQ _ _ _ hF hL h
  · have h := h.2 hc
    refine ⟨h.1, ?_⟩
    have h := h.2
    refine ⟨fun hc => ?_, fun hc => ?_⟩
    · have h := h.1 hc
      refine ⟨h.1, ?_⟩
      have h := h.2
      exact mnX12_keeps_h31 hQ hF hL h
    · have h := h.2 hc
      exact hQ _ _ _ hF hL h
abbrev wsI_X12_isTooMany : List Nat := []
abbrev wsL_X12_isTooMany : List Nat := []
abbrev fsI_X12_isTooMany : List (Nat × Nat) := []
abbrev fsL_X12_isTooMany : List (Nat × Nat) := []
set_option maxRecDepth 10000 in
theorem mnX12_isTooMany_b34 {I0 : Ix} {L0 : Lx} {Q Q' : Bool → Ix → Lx → Prop} (hQ : ∀ (r : Bool) (I1 : Ix) (L1 : Lx), FrI (wsI_X12_isTooMany) (fsI_X12_isTooMany) I0 I1 → FrL (wsL_X12_isTooMany) (fsL_X12_isTooMany) L0 L1 → Q r I1 L1 → Q' r I1 L1) {v1 : Int32} {I : Ix} {L : Lx} (hF : FrI (wsI_X12_isTooMany) (fsI_X12_isTooMany) I0 I) (hL : FrL (wsL_X12_isTooMany) (fsL_X12_isTooMany) L0 L) (h : wpX12_isTooMany_b34 Q v1 I L) : wpX12_isTooMany_b34 Q' v1 I L := by
  unfold wpX12_isTooMany_b34 at h ⊢
  refine ⟨fun hc => ?_, fun hc => ?_⟩
  · have h := h.1 hc
    exact hQ _ _ _ hF hL h
  · have h := h.2 hc
    exact hQ _ _ _ hF hL h
set_option maxRecDepth 10000 in
theorem mnX12_isTooMany_l4 {I0 : Ix} {L0 : Lx} {Q Q' : Bool → Ix → Lx → Prop} {P4 P4' : Int32 → Int32 → Ix → Lx → Prop} (hQ : ∀ (r : Bool) (I1 : Ix) (L1 : Lx), FrI (wsI_X12_isTooMany) (fsI_X12_isTooMany) I0 I1 → FrL (wsL_X12_isTooMany) (fsL_X12_isTooMany) L0 L1 → Q r I1 L1 → Q' r I1 L1) (hP4 : ∀ (v1 : Int32) (v2 : Int32) (I1 : Ix) (L1 : Lx), FrI (wsI_X12_isTooMany) (fsI_X12_isTooMany) I0 I1 → FrL (wsL_X12_isTooMany) (fsL_X12_isTooMany) L0 L1 → P4 v1 v2 I1 L1 → P4' v1 v2 I1 L1) {v1 : Int32} {v2 : Int32} {I : Ix} {L : Lx} (hF : FrI (wsI_X12_isTooMany) (fsI_X12_isTooMany) I0 I) (hL : FrL (wsL_X12_isTooMany) (fsL_X12_isTooMany) L0 L) (h : wpX12_isTooMany_l4 Q P4 v1 v2 I L) : wpX12_isTooMany_l4 Q' P4' v1 v2 I L := by
  unfold wpX12_isTooMany_l4 at h ⊢
  refine ⟨fun hc => ?_, fun hc => ?_⟩
  · have h := h.1 hc
    exact mnX12_isTooMany_b34 hQ hF hL h
  · have h := h.2 hc
    refine ⟨fun hc => ?_, fun hc => ?_⟩
    · have h := h.1 hc
      exact mnX12_isTooMany_b34 hQ hF hL h
    · have h := h.2 hc
      exact hP4 _ _ _ _ hF hL h
set_option maxRecDepth 10000 in
theorem mnX12_isTooMany_h4 {I0 : Ix} {L0 : Lx} {Q Q' : Bool → Ix → Lx → Prop} (hQ : ∀ (r : Bool) (I1 : Ix) (L1 : Lx), FrI (wsI_X12_isTooMany) (fsI_X12_isTooMany) I0 I1 → FrL (wsL_X12_isTooMany) (fsL_X12_isTooMany) L0 L1 → Q r I1 L1 → Q' r I1 L1) {v1 : Int32} {v2 : Int32} {I : Ix} {L : Lx} (hF : FrI (wsI_X12_isTooMany) (fsI_X12_isTooMany) I0 I) (hL : FrL (wsL_X12_isTooMany) (fsL_X12_isTooMany) L0 L) (h : wpX12_isTooMany_h4 Q v1 v2 I L) : wpX12_isTooMany_h4 Q' v1 v2 I L := by
  unfold wpX12_isTooMany_h4 at h
  refine Lfp.ind (P := fun z => FrI (wsI_X12_isTooMany) (fsI_X12_isTooMany) I0 z.2.2.1 → FrL (wsL_X12_isTooMany) (fsL_X12_isTooMany) L0 z.2.2.2 → wpX12_isTooMany_h4 Q' z.1 z.2.1 z.2.2.1 z.2.2.2) ?_ h hF hL
  intro z P' hP' h hF hL
  obtain ⟨v1, v2, I, L⟩ := z
  exact wpX12_isTooMany_h4_fold (mnX12_isTooMany_l4 hQ (fun v1 v2 I L hF hL h9 => hP' (v1, v2, I, L) h9 hF hL) hF hL h)
set_option maxRecDepth 10000 in
theorem mnX12_isTooMany {I : Ix} {L : Lx} {Q Q' : Bool → Ix → Lx → Prop} (hQ : ∀ (r : Bool) (I1 : Ix) (L1 : Lx), FrI (wsI_X12_isTooMany) (fsI_X12_isTooMany) I I1 → FrL (wsL_X12_isTooMany) (fsL_X12_isTooMany) L L1 → Q r I1 L1 → Q' r I1 L1) (h : wpX12_isTooMany I L Q) : wpX12_isTooMany I L Q' := by
  have hF : FrI (wsI_X12_isTooMany) (fsI_X12_isTooMany) I I := FrI.rf
  have hL : FrL (wsL_X12_isTooMany) (fsL_X12_isTooMany) L L := FrL.rf
  unfold wpX12_isTooMany at h ⊢
  exact mnX12_isTooMany_h4 hQ hF hL h
abbrev wsI_X12_lostOf : List Nat := []
abbrev wsL_X12_lostOf : List Nat := []
abbrev fsI_X12_lostOf : List (Nat × Nat) := []
abbrev fsL_X12_lostOf : List (Nat × Nat) := []
set_option maxRecDepth 10000 in
theorem mnX12_lostOf {a1 : Int32} {I : Ix} {L : Lx} {Q Q' : Int32 → Ix → Lx → Prop} (hQ : ∀ (r : Int32) (I1 : Ix) (L1 : Lx), FrI (wsI_X12_lostOf) (fsI_X12_lostOf) I I1 → FrL (wsL_X12_lostOf) (fsL_X12_lostOf) L L1 → Q r I1 L1 → Q' r I1 L1) (h : wpX12_lostOf a1 I L Q) : wpX12_lostOf a1 I L Q' := by
  have hF : FrI (wsI_X12_lostOf) (fsI_X12_lostOf) I I := FrI.rf
  have hL : FrL (wsL_X12_lostOf) (fsL_X12_lostOf) L L := FrL.rf
  unfold wpX12_lostOf at h ⊢
  refine mnX12_standersOf (fun r3 I1 L2 hf hl h => ?_) h
  have hF := hF.tr hf (by decide) (by decide)
  have hL := hL.tr hl (by decide) (by decide)
  refine ⟨fun hc => ?_, fun hc => ?_⟩
  · have h := h.1 hc
    refine mnX12_takersOf (fun r6 I4 L5 hf hl h => ?_) h
    have hF := hF.tr hf (by decide) (by decide)
    have hL := hL.tr hl (by decide) (by decide)
    refine ⟨fun hc => ?_, fun hc => ?_⟩
    · have h := h.1 hc
      refine mnX12_ones (fun r9 I7 L8 hf hl h => ?_) h
      have hF := hF.tr hf (by decide) (by decide)
      have hL := hL.tr hl (by decide) (by decide)
      exact hQ _ _ _ hF hL h
    · have h := h.2 hc
      refine mnX12_ones (fun r12 I10 L11 hf hl h => ?_) h
      have hF := hF.tr hf (by decide) (by decide)
      have hL := hL.tr hl (by decide) (by decide)
      refine ⟨h.1, ?_⟩
      have h := h.2
      refine ⟨fun hc => ?_, fun hc => ?_⟩
      · have h := h.1 hc
        exact hQ _ _ _ hF hL h
      · have h := h.2 hc
        refine ⟨h.1, ?_⟩
        have h := h.2
        refine ⟨fun hc => ?_, fun hc => ?_⟩
        · have h := h.1 hc
          exact hQ _ _ _ hF hL h
        · have h := h.2 hc
          exact hQ _ _ _ hF hL h
  · have h := h.2 hc
    exact hQ _ _ _ hF hL h
abbrev wsI_X12_payOf : List Nat := []
abbrev wsL_X12_payOf : List Nat := []
abbrev fsI_X12_payOf : List (Nat × Nat) := []
abbrev fsL_X12_payOf : List (Nat × Nat) := []
set_option maxRecDepth 10000 in
theorem mnX12_payOf {a1 : Int32} {I : Ix} {L : Lx} {Q Q' : Int32 → Ix → Lx → Prop} (hQ : ∀ (r : Int32) (I1 : Ix) (L1 : Lx), FrI (wsI_X12_payOf) (fsI_X12_payOf) I I1 → FrL (wsL_X12_payOf) (fsL_X12_payOf) L L1 → Q r I1 L1 → Q' r I1 L1) (h : wpX12_payOf a1 I L Q) : wpX12_payOf a1 I L Q' := by
  have hF : FrI (wsI_X12_payOf) (fsI_X12_payOf) I I := FrI.rf
  have hL : FrL (wsL_X12_payOf) (fsL_X12_payOf) L L := FrL.rf
  unfold wpX12_payOf at h ⊢
  refine ⟨h.1, ?_⟩
  have h := h.2
  refine ⟨fun hc => ?_, fun hc => ?_⟩
  · have h := h.1 hc
    refine mnX12_takersOf (fun r3 I1 L2 hf hl h => ?_) h
    have hF := hF.tr hf (by decide) (by decide)
    have hL := hL.tr hl (by decide) (by decide)
    refine ⟨fun hc => ?_, fun hc => ?_⟩
    · have h := h.1 hc
      refine ⟨h.1, ?_⟩
      have h := h.2
      refine ⟨h.1, ?_⟩
      have h := h.2
      refine ⟨fun hc => ?_, fun hc => ?_⟩
      · have h := h.1 hc
        refine mnX12_firstBy (fun r6 I4 L5 hf hl h => ?_) h
        have hF := hF.tr hf (by decide) (by decide)
        have hL := hL.tr hl (by decide) (by decide)
        refine ⟨fun hc => ?_, fun hc => ?_⟩
        · have h := h.1 hc
          exact hQ _ _ _ hF hL h
        · have h := h.2 hc
          exact hQ _ _ _ hF hL h
      · have h := h.2 hc
        refine mnX12_ones (fun r9 I7 L8 hf hl h => ?_) h
        have hF := hF.tr hf (by decide) (by decide)
        have hL := hL.tr hl (by decide) (by decide)
        refine ⟨h.1, ?_⟩
        have h := h.2
        exact hQ _ _ _ hF hL h
    · have h := h.2 hc
      exact hQ _ _ _ hF hL h
  · have h := h.2 hc
    exact hQ _ _ _ hF hL h
abbrev wsI_X12_choose : List Nat := [160, 159]
abbrev wsL_X12_choose : List Nat := []
abbrev fsI_X12_choose : List (Nat × Nat) := []
abbrev fsL_X12_choose : List (Nat × Nat) := []
set_option maxRecDepth 10000 in
theorem mnX12_choose_b57 {I0 : Ix} {L0 : Lx} {Q Q' : Ix → Lx → Prop} (hQ : ∀ (I1 : Ix) (L1 : Lx), FrI (wsI_X12_choose) (fsI_X12_choose) I0 I1 → FrL (wsL_X12_choose) (fsL_X12_choose) L0 L1 → Q I1 L1 → Q' I1 L1) {t1 : Int32} {t2 : Int32} {I : Ix} {L : Lx} (hF : FrI (wsI_X12_choose) (fsI_X12_choose) I0 I) (hL : FrL (wsL_X12_choose) (fsL_X12_choose) L0 L) (h : wpX12_choose_b57 Q t1 t2 I L) : wpX12_choose_b57 Q' t1 t2 I L := by
  unfold wpX12_choose_b57 at h ⊢
  refine ⟨h.1, ?_⟩
  have h := h.2
  intro I1 eI1
  have h := h I1 eI1
  have hF := hF.pw eI1 (by decide)
  exact hQ _ _ hF hL h
set_option maxRecDepth 10000 in
theorem mnX12_choose_b18 {I0 : Ix} {L0 : Lx} {Q Q' : Ix → Lx → Prop} (hQ : ∀ (I1 : Ix) (L1 : Lx), FrI (wsI_X12_choose) (fsI_X12_choose) I0 I1 → FrL (wsL_X12_choose) (fsL_X12_choose) L0 L1 → Q I1 L1 → Q' I1 L1) {v1 : Int32} {t1 : Int32} {t2 : Int32} {I : Ix} {L : Lx} (hF : FrI (wsI_X12_choose) (fsI_X12_choose) I0 I) (hL : FrL (wsL_X12_choose) (fsL_X12_choose) L0 L) (h : wpX12_choose_b18 Q v1 t1 t2 I L) : wpX12_choose_b18 Q' v1 t1 t2 I L := by
  unfold wpX12_choose_b18 at h ⊢
  refine ⟨h.1, ?_⟩
  have h := h.2
  intro I1 eI1
  have h := h I1 eI1
  have hF := hF.pw eI1 (by decide)
  refine ⟨h.1, ?_⟩
  have h := h.2
  refine ⟨fun hc => ?_, fun hc => ?_⟩
  · have h := h.1 hc
    refine ⟨h.1, ?_⟩
    have h := h.2
    refine ⟨h.1, ?_⟩
    have h := h.2
    refine mnX12_placeOf (fun r4 I2 L3 hf hl h => ?_) h
    have hF := hF.tr hf (by decide) (by decide)
    have hL := hL.tr hl (by decide) (by decide)
    refine mnX12_farOf (fun r7 I5 L6 hf hl h => ?_) h
    have hF := hF.tr hf (by decide) (by decide)
    have hL := hL.tr hl (by decide) (by decide)
    exact mnX12_choose_b57 hQ hF hL h
  · have h := h.2 hc
    exact mnX12_choose_b57 hQ hF hL h
set_option maxRecDepth 10000 in
theorem mnX12_choose {a1 : Int32} {a2 : Int32} {I : Ix} {L : Lx} {Q Q' : Ix → Lx → Prop} (hQ : ∀ (I1 : Ix) (L1 : Lx), FrI (wsI_X12_choose) (fsI_X12_choose) I I1 → FrL (wsL_X12_choose) (fsL_X12_choose) L L1 → Q I1 L1 → Q' I1 L1) (h : wpX12_choose a1 a2 I L Q) : wpX12_choose a1 a2 I L Q' := by
  have hF : FrI (wsI_X12_choose) (fsI_X12_choose) I I := FrI.rf
  have hL : FrL (wsL_X12_choose) (fsL_X12_choose) L L := FrL.rf
  unfold wpX12_choose at h ⊢
  refine ⟨fun hc => ?_, fun hc => ?_⟩
  · have h := h.1 hc
    exact mnX12_choose_b18 hQ hF hL h
  · have h := h.2 hc
    exact mnX12_choose_b18 hQ hF hL h
abbrev wsI_X12_mayStand : List Nat := []
abbrev wsL_X12_mayStand : List Nat := []
abbrev fsI_X12_mayStand : List (Nat × Nat) := []
abbrev fsL_X12_mayStand : List (Nat × Nat) := []
set_option maxRecDepth 10000 in
theorem mnX12_mayStand_b48 {I0 : Ix} {L0 : Lx} {Q Q' : Bool → Ix → Lx → Prop} (hQ : ∀ (r : Bool) (I1 : Ix) (L1 : Lx), FrI (wsI_X12_mayStand) (fsI_X12_mayStand) I0 I1 → FrL (wsL_X12_mayStand) (fsL_X12_mayStand) L0 L1 → Q r I1 L1 → Q' r I1 L1) {I : Ix} {L : Lx} (hF : FrI (wsI_X12_mayStand) (fsI_X12_mayStand) I0 I) (hL : FrL (wsL_X12_mayStand) (fsL_X12_mayStand) L0 L) (h : wpX12_mayStand_b48 Q I L) : wpX12_mayStand_b48 Q' I L := by
  unfold wpX12_mayStand_b48 at h ⊢
  exact hQ _ _ _ hF hL h
set_option maxRecDepth 10000 in
theorem mnX12_mayStand {a1 : Int32} {a2 : Int32} {I : Ix} {L : Lx} {Q Q' : Bool → Ix → Lx → Prop} (hQ : ∀ (r : Bool) (I1 : Ix) (L1 : Lx), FrI (wsI_X12_mayStand) (fsI_X12_mayStand) I I1 → FrL (wsL_X12_mayStand) (fsL_X12_mayStand) L L1 → Q r I1 L1 → Q' r I1 L1) (h : wpX12_mayStand a1 a2 I L Q) : wpX12_mayStand a1 a2 I L Q' := by
  have hF : FrI (wsI_X12_mayStand) (fsI_X12_mayStand) I I := FrI.rf
  have hL : FrL (wsL_X12_mayStand) (fsL_X12_mayStand) L L := FrL.rf
  unfold wpX12_mayStand at h ⊢
  refine ⟨fun hc => ?_, fun hc => ?_⟩
  · have h := h.1 hc
    exact mnX12_mayStand_b48 hQ hF hL h
  · have h := h.2 hc
    refine ⟨h.1, ?_⟩
    have h := h.2
    refine ⟨fun hc => ?_, fun hc => ?_⟩
    · have h := h.1 hc
      exact hQ _ _ _ hF hL h
    · have h := h.2 hc
      refine ⟨h.1, ?_⟩
      have h := h.2
      refine mnX12_placeOf (fun r3 I1 L2 hf hl h => ?_) h
      have hF := hF.tr hf (by decide) (by decide)
      have hL := hL.tr hl (by decide) (by decide)
      refine mnX12_farOf (fun r6 I4 L5 hf hl h => ?_) h
      have hF := hF.tr hf (by decide) (by decide)
      have hL := hL.tr hl (by decide) (by decide)
      refine mnX12_placeOf (fun r9 I7 L8 hf hl h => ?_) h
      have hF := hF.tr hf (by decide) (by decide)
      have hL := hL.tr hl (by decide) (by decide)
      refine ⟨h.1, ?_⟩
      have h := h.2
      refine ⟨fun hc => ?_, fun hc => ?_⟩
      · have h := h.1 hc
        exact hQ _ _ _ hF hL h
      · have h := h.2 hc
        exact mnX12_mayStand_b48 hQ hF hL h
abbrev wsI_X12_layRow : List Nat := [160, 159]
abbrev wsL_X12_layRow : List Nat := []
abbrev fsI_X12_layRow : List (Nat × Nat) := []
abbrev fsL_X12_layRow : List (Nat × Nat) := []
set_option maxRecDepth 10000 in
theorem mnX12_layRow_b57 {I0 : Ix} {L0 : Lx} {Q Q' : Bool → Ix → Lx → Prop} {P12 P12' : Int32 → Int32 → Int32 → Ix → Lx → Prop} (hQ : ∀ (r : Bool) (I1 : Ix) (L1 : Lx), FrI (wsI_X12_layRow) (fsI_X12_layRow) I0 I1 → FrL (wsL_X12_layRow) (fsL_X12_layRow) L0 L1 → Q r I1 L1 → Q' r I1 L1) (hP12 : ∀ (v2 : Int32) (v3 : Int32) (v4 : Int32) (I1 : Ix) (L1 : Lx), FrI (wsI_X12_layRow) (fsI_X12_layRow) I0 I1 → FrL (wsL_X12_layRow) (fsL_X12_layRow) L0 L1 → P12 v2 v3 v4 I1 L1 → P12' v2 v3 v4 I1 L1) {v2 : Int32} {v4 : Int32} {t0 : Int32} {I : Ix} {L : Lx} (hF : FrI (wsI_X12_layRow) (fsI_X12_layRow) I0 I) (hL : FrL (wsL_X12_layRow) (fsL_X12_layRow) L0 L) (h : wpX12_layRow_b57 Q P12 v2 v4 t0 I L) : wpX12_layRow_b57 Q' P12' v2 v4 t0 I L := by
  unfold wpX12_layRow_b57 at h ⊢
  refine ⟨h.1, ?_⟩
  have h := h.2
  exact hP12 _ _ _ _ _ hF hL h
set_option maxRecDepth 10000 in
theorem mnX12_layRow_b56 {I0 : Ix} {L0 : Lx} {Q Q' : Bool → Ix → Lx → Prop} {P12 P12' : Int32 → Int32 → Int32 → Ix → Lx → Prop} (hQ : ∀ (r : Bool) (I1 : Ix) (L1 : Lx), FrI (wsI_X12_layRow) (fsI_X12_layRow) I0 I1 → FrL (wsL_X12_layRow) (fsL_X12_layRow) L0 L1 → Q r I1 L1 → Q' r I1 L1) (hP12 : ∀ (v2 : Int32) (v3 : Int32) (v4 : Int32) (I1 : Ix) (L1 : Lx), FrI (wsI_X12_layRow) (fsI_X12_layRow) I0 I1 → FrL (wsL_X12_layRow) (fsL_X12_layRow) L0 L1 → P12 v2 v3 v4 I1 L1 → P12' v2 v3 v4 I1 L1) {v2 : Int32} {v4 : Int32} {I : Ix} {L : Lx} (hF : FrI (wsI_X12_layRow) (fsI_X12_layRow) I0 I) (hL : FrL (wsL_X12_layRow) (fsL_X12_layRow) L0 L) (h : wpX12_layRow_b56 Q P12 v2 v4 I L) : wpX12_layRow_b56 Q' P12' v2 v4 I L := by
  unfold wpX12_layRow_b56 at h ⊢
  exact mnX12_layRow_b57 hQ hP12 hF hL h
set_option maxRecDepth 10000 in
theorem mnX12_layRow_l12 {I0 : Ix} {L0 : Lx} {Q Q' : Bool → Ix → Lx → Prop} {P12 P12' : Int32 → Int32 → Int32 → Ix → Lx → Prop} (hQ : ∀ (r : Bool) (I1 : Ix) (L1 : Lx), FrI (wsI_X12_layRow) (fsI_X12_layRow) I0 I1 → FrL (wsL_X12_layRow) (fsL_X12_layRow) L0 L1 → Q r I1 L1 → Q' r I1 L1) (hP12 : ∀ (v2 : Int32) (v3 : Int32) (v4 : Int32) (I1 : Ix) (L1 : Lx), FrI (wsI_X12_layRow) (fsI_X12_layRow) I0 I1 → FrL (wsL_X12_layRow) (fsL_X12_layRow) L0 L1 → P12 v2 v3 v4 I1 L1 → P12' v2 v3 v4 I1 L1) {v2 : Int32} {v3 : Int32} {v4 : Int32} {I : Ix} {L : Lx} (hF : FrI (wsI_X12_layRow) (fsI_X12_layRow) I0 I) (hL : FrL (wsL_X12_layRow) (fsL_X12_layRow) L0 L) (h : wpX12_layRow_l12 Q P12 v2 v3 v4 I L) : wpX12_layRow_l12 Q' P12' v2 v3 v4 I L := by
  unfold wpX12_layRow_l12 at h ⊢
  refine ⟨fun hc => ?_, fun hc => ?_⟩
  · have h := h.1 hc
    obtain ⟨b, e, h⟩ := h
    exact ⟨b, e, hQ _ _ _ hF hL h⟩
  · have h := h.2 hc
    refine ⟨h.1, ?_⟩
    have h := h.2
    refine mnX12_choose (fun I1 L2 hf hl h => ?_) h
    have hF := hF.tr hf (by decide) (by decide)
    have hL := hL.tr hl (by decide) (by decide)
    refine ⟨fun hc => ?_, fun hc => ?_⟩
    · have h := h.1 hc
      exact mnX12_layRow_b56 hQ hP12 hF hL h
    · have h := h.2 hc
      refine ⟨h.1, ?_⟩
      have h := h.2
      refine mnX12_mayStand (fun r5 I3 L4 hf hl h => ?_) h
      have hF := hF.tr hf (by decide) (by decide)
      have hL := hL.tr hl (by decide) (by decide)
      refine ⟨fun hc => ?_, fun hc => ?_⟩
      · have h := h.1 hc
        exact mnX12_layRow_b56 hQ hP12 hF hL h
      · have h := h.2 hc
        exact mnX12_layRow_b57 hQ hP12 hF hL h
set_option maxRecDepth 10000 in
theorem mnX12_layRow_h12 {I0 : Ix} {L0 : Lx} {Q Q' : Bool → Ix → Lx → Prop} (hQ : ∀ (r : Bool) (I1 : Ix) (L1 : Lx), FrI (wsI_X12_layRow) (fsI_X12_layRow) I0 I1 → FrL (wsL_X12_layRow) (fsL_X12_layRow) L0 L1 → Q r I1 L1 → Q' r I1 L1) {v2 : Int32} {v3 : Int32} {v4 : Int32} {I : Ix} {L : Lx} (hF : FrI (wsI_X12_layRow) (fsI_X12_layRow) I0 I) (hL : FrL (wsL_X12_layRow) (fsL_X12_layRow) L0 L) (h : wpX12_layRow_h12 Q v2 v3 v4 I L) : wpX12_layRow_h12 Q' v2 v3 v4 I L := by
  unfold wpX12_layRow_h12 at h
  refine Lfp.ind (P := fun z => FrI (wsI_X12_layRow) (fsI_X12_layRow) I0 z.2.2.2.1 → FrL (wsL_X12_layRow) (fsL_X12_layRow) L0 z.2.2.2.2 → wpX12_layRow_h12 Q' z.1 z.2.1 z.2.2.1 z.2.2.2.1 z.2.2.2.2) ?_ h hF hL
  intro z P' hP' h hF hL
  obtain ⟨v2, v3, v4, I, L⟩ := z
  exact wpX12_layRow_h12_fold (mnX12_layRow_l12 hQ (fun v2 v3 v4 I L hF hL h9 => hP' (v2, v3, v4, I, L) h9 hF hL) hF hL h)
set_option maxRecDepth 10000 in
theorem mnX12_layRow {a1 : Int32} {I : Ix} {L : Lx} {Q Q' : Bool → Ix → Lx → Prop} (hQ : ∀ (r : Bool) (I1 : Ix) (L1 : Lx), FrI (wsI_X12_layRow) (fsI_X12_layRow) I I1 → FrL (wsL_X12_layRow) (fsL_X12_layRow) L L1 → Q r I1 L1 → Q' r I1 L1) (h : wpX12_layRow a1 I L Q) : wpX12_layRow a1 I L Q' := by
  have hF : FrI (wsI_X12_layRow) (fsI_X12_layRow) I I := FrI.rf
  have hL : FrL (wsL_X12_layRow) (fsL_X12_layRow) L L := FrL.rf
  unfold wpX12_layRow at h ⊢
  exact mnX12_layRow_h12 hQ hF hL h
abbrev wsI_X12_isAtRest : List Nat := [160, 159]
abbrev wsL_X12_isAtRest : List Nat := []
abbrev fsI_X12_isAtRest : List (Nat × Nat) := []
abbrev fsL_X12_isAtRest : List (Nat × Nat) := []
set_option maxRecDepth 10000 in
theorem mnX12_isAtRest_b101 {I0 : Ix} {L0 : Lx} {Q Q' : Bool → Ix → Lx → Prop} {P2 P2' : Int32 → Ix → Lx → Prop} (hQ : ∀ (r : Bool) (I1 : Ix) (L1 : Lx), FrI (wsI_X12_isAtRest) (fsI_X12_isAtRest) I0 I1 → FrL (wsL_X12_isAtRest) (fsL_X12_isAtRest) L0 L1 → Q r I1 L1 → Q' r I1 L1) (hP2 : ∀ (v1 : Int32) (I1 : Ix) (L1 : Lx), FrI (wsI_X12_isAtRest) (fsI_X12_isAtRest) I0 I1 → FrL (wsL_X12_isAtRest) (fsL_X12_isAtRest) L0 L1 → P2 v1 I1 L1 → P2' v1 I1 L1) {v1 : Int32} {v3 : Int32} {v4 : Int32} {I : Ix} {L : Lx} (hF : FrI (wsI_X12_isAtRest) (fsI_X12_isAtRest) I0 I) (hL : FrL (wsL_X12_isAtRest) (fsL_X12_isAtRest) L0 L) (h : wpX12_isAtRest_b101 Q P2 v1 v3 v4 I L) : wpX12_isAtRest_b101 Q' P2' v1 v3 v4 I L := by
  unfold wpX12_isAtRest_b101 at h ⊢
  refine mnX12_choose (fun I1 L2 hf hl h => ?_) h
  have hF := hF.tr hf (by decide) (by decide)
  have hL := hL.tr hl (by decide) (by decide)
  refine ⟨fun hc => ?_, fun hc => ?_⟩
  · have h := h.1 hc
    exact hP2 _ _ _ hF hL h
  · have h := h.2 hc
    exact hQ _ _ _ hF hL h
set_option maxRecDepth 10000 in
theorem mnX12_isAtRest_l45 {I0 : Ix} {L0 : Lx} {Q Q' : Bool → Ix → Lx → Prop} {P2 P2' : Int32 → Ix → Lx → Prop} {P45 P45' : Int32 → Int32 → Int32 → Int32 → Int32 → Ix → Lx → Prop} (hQ : ∀ (r : Bool) (I1 : Ix) (L1 : Lx), FrI (wsI_X12_isAtRest) (fsI_X12_isAtRest) I0 I1 → FrL (wsL_X12_isAtRest) (fsL_X12_isAtRest) L0 L1 → Q r I1 L1 → Q' r I1 L1) (hP2 : ∀ (v1 : Int32) (I1 : Ix) (L1 : Lx), FrI (wsI_X12_isAtRest) (fsI_X12_isAtRest) I0 I1 → FrL (wsL_X12_isAtRest) (fsL_X12_isAtRest) L0 L1 → P2 v1 I1 L1 → P2' v1 I1 L1) (hP45 : ∀ (v1 : Int32) (v2 : Int32) (v3 : Int32) (v4 : Int32) (v5 : Int32) (I1 : Ix) (L1 : Lx), FrI (wsI_X12_isAtRest) (fsI_X12_isAtRest) I0 I1 → FrL (wsL_X12_isAtRest) (fsL_X12_isAtRest) L0 L1 → P45 v1 v2 v3 v4 v5 I1 L1 → P45' v1 v2 v3 v4 v5 I1 L1) {v1 : Int32} {v2 : Int32} {v3 : Int32} {v4 : Int32} {v5 : Int32} {I : Ix} {L : Lx} (hF : FrI (wsI_X12_isAtRest) (fsI_X12_isAtRest) I0 I) (hL : FrL (wsL_X12_isAtRest) (fsL_X12_isAtRest) L0 L) (h : wpX12_isAtRest_l45 Q P2 P45 v1 v2 v3 v4 v5 I L) : wpX12_isAtRest_l45 Q' P2' P45' v1 v2 v3 v4 v5 I L := by
  unfold wpX12_isAtRest_l45 at h ⊢
  refine ⟨fun hc => ?_, fun hc => ?_⟩
  · have h := h.1 hc
    exact mnX12_isAtRest_b101 hQ hP2 hF hL h
  · have h := h.2 hc
    refine ⟨fun hc => ?_, fun hc => ?_⟩
    · have h := h.1 hc
      exact mnX12_isAtRest_b101 hQ hP2 hF hL h
    · have h := h.2 hc
      refine mnX12_mayStand (fun r3 I1 L2 hf hl h => ?_) h
      have hF := hF.tr hf (by decide) (by decide)
      have hL := hL.tr hl (by decide) (by decide)
      refine ⟨fun hc => ?_, fun hc => ?_⟩
      · have h := h.1 hc
        refine mnX12_choose (fun I4 L5 hf hl h => ?_) h
        have hF := hF.tr hf (by decide) (by decide)
        have hL := hL.tr hl (by decide) (by decide)
        refine mnX12_payOf (fun r8 I6 L7 hf hl h => ?_) h
        have hF := hF.tr hf (by decide) (by decide)
        have hL := hL.tr hl (by decide) (by decide)
        refine ⟨fun hc => ?_, fun hc => ?_⟩
        · have h := h.1 hc
          exact hP45 _ _ _ _ _ _ _ hF hL h
        · have h := h.2 hc
          exact hP45 _ _ _ _ _ _ _ hF hL h
      · have h := h.2 hc
        exact hP45 _ _ _ _ _ _ _ hF hL h
set_option maxRecDepth 10000 in
theorem mnX12_isAtRest_h45 {I0 : Ix} {L0 : Lx} {Q Q' : Bool → Ix → Lx → Prop} {P2 P2' : Int32 → Ix → Lx → Prop} (hQ : ∀ (r : Bool) (I1 : Ix) (L1 : Lx), FrI (wsI_X12_isAtRest) (fsI_X12_isAtRest) I0 I1 → FrL (wsL_X12_isAtRest) (fsL_X12_isAtRest) L0 L1 → Q r I1 L1 → Q' r I1 L1) (hP2 : ∀ (v1 : Int32) (I1 : Ix) (L1 : Lx), FrI (wsI_X12_isAtRest) (fsI_X12_isAtRest) I0 I1 → FrL (wsL_X12_isAtRest) (fsL_X12_isAtRest) L0 L1 → P2 v1 I1 L1 → P2' v1 I1 L1) {v1 : Int32} {v2 : Int32} {v3 : Int32} {v4 : Int32} {v5 : Int32} {I : Ix} {L : Lx} (hF : FrI (wsI_X12_isAtRest) (fsI_X12_isAtRest) I0 I) (hL : FrL (wsL_X12_isAtRest) (fsL_X12_isAtRest) L0 L) (h : wpX12_isAtRest_h45 Q P2 v1 v2 v3 v4 v5 I L) : wpX12_isAtRest_h45 Q' P2' v1 v2 v3 v4 v5 I L := by
  unfold wpX12_isAtRest_h45 at h
  refine Lfp.ind (P := fun z => FrI (wsI_X12_isAtRest) (fsI_X12_isAtRest) I0 z.2.2.2.2.2.1 → FrL (wsL_X12_isAtRest) (fsL_X12_isAtRest) L0 z.2.2.2.2.2.2 → wpX12_isAtRest_h45 Q' P2' z.1 z.2.1 z.2.2.1 z.2.2.2.1 z.2.2.2.2.1 z.2.2.2.2.2.1 z.2.2.2.2.2.2) ?_ h hF hL
  intro z P' hP' h hF hL
  obtain ⟨v1, v2, v3, v4, v5, I, L⟩ := z
  exact wpX12_isAtRest_h45_fold (mnX12_isAtRest_l45 hQ hP2 (fun v1 v2 v3 v4 v5 I L hF hL h9 => hP' (v1, v2, v3, v4, v5, I, L) h9 hF hL) hF hL h)
set_option maxRecDepth 10000 in
theorem mnX12_isAtRest_l2 {I0 : Ix} {L0 : Lx} {Q Q' : Bool → Ix → Lx → Prop} {P2 P2' : Int32 → Ix → Lx → Prop} (hQ : ∀ (r : Bool) (I1 : Ix) (L1 : Lx), FrI (wsI_X12_isAtRest) (fsI_X12_isAtRest) I0 I1 → FrL (wsL_X12_isAtRest) (fsL_X12_isAtRest) L0 L1 → Q r I1 L1 → Q' r I1 L1) (hP2 : ∀ (v1 : Int32) (I1 : Ix) (L1 : Lx), FrI (wsI_X12_isAtRest) (fsI_X12_isAtRest) I0 I1 → FrL (wsL_X12_isAtRest) (fsL_X12_isAtRest) L0 L1 → P2 v1 I1 L1 → P2' v1 I1 L1) {v1 : Int32} {I : Ix} {L : Lx} (hF : FrI (wsI_X12_isAtRest) (fsI_X12_isAtRest) I0 I) (hL : FrL (wsL_X12_isAtRest) (fsL_X12_isAtRest) L0 L) (h : wpX12_isAtRest_l2 Q P2 v1 I L) : wpX12_isAtRest_l2 Q' P2' v1 I L := by
  unfold wpX12_isAtRest_l2 at h ⊢
  refine ⟨fun hc => ?_, fun hc => ?_⟩
  · have h := h.1 hc
    exact hQ _ _ _ hF hL h
  · have h := h.2 hc
    refine mnX12_payOf (fun r3 I1 L2 hf hl h => ?_) h
    have hF := hF.tr hf (by decide) (by decide)
    have hL := hL.tr hl (by decide) (by decide)
    refine ⟨h.1, ?_⟩
    have h := h.2
    refine ⟨fun hc => ?_, fun hc => ?_⟩
    · have h := h.1 hc
      refine ⟨h.1, ?_⟩
      have h := h.2
      exact mnX12_isAtRest_h45 hQ hP2 hF hL h
    · have h := h.2 hc
      exact mnX12_isAtRest_h45 hQ hP2 hF hL h
set_option maxRecDepth 10000 in
theorem mnX12_isAtRest_h2 {I0 : Ix} {L0 : Lx} {Q Q' : Bool → Ix → Lx → Prop} (hQ : ∀ (r : Bool) (I1 : Ix) (L1 : Lx), FrI (wsI_X12_isAtRest) (fsI_X12_isAtRest) I0 I1 → FrL (wsL_X12_isAtRest) (fsL_X12_isAtRest) L0 L1 → Q r I1 L1 → Q' r I1 L1) {v1 : Int32} {I : Ix} {L : Lx} (hF : FrI (wsI_X12_isAtRest) (fsI_X12_isAtRest) I0 I) (hL : FrL (wsL_X12_isAtRest) (fsL_X12_isAtRest) L0 L) (h : wpX12_isAtRest_h2 Q v1 I L) : wpX12_isAtRest_h2 Q' v1 I L := by
  unfold wpX12_isAtRest_h2 at h
  refine Lfp.ind (P := fun z => FrI (wsI_X12_isAtRest) (fsI_X12_isAtRest) I0 z.2.1 → FrL (wsL_X12_isAtRest) (fsL_X12_isAtRest) L0 z.2.2 → wpX12_isAtRest_h2 Q' z.1 z.2.1 z.2.2) ?_ h hF hL
  intro z P' hP' h hF hL
  obtain ⟨v1, I, L⟩ := z
  exact wpX12_isAtRest_h2_fold (mnX12_isAtRest_l2 hQ (fun v1 I L hF hL h9 => hP' (v1, I, L) h9 hF hL) hF hL h)
set_option maxRecDepth 10000 in
theorem mnX12_isAtRest {I : Ix} {L : Lx} {Q Q' : Bool → Ix → Lx → Prop} (hQ : ∀ (r : Bool) (I1 : Ix) (L1 : Lx), FrI (wsI_X12_isAtRest) (fsI_X12_isAtRest) I I1 → FrL (wsL_X12_isAtRest) (fsL_X12_isAtRest) L L1 → Q r I1 L1 → Q' r I1 L1) (h : wpX12_isAtRest I L Q) : wpX12_isAtRest I L Q' := by
  have hF : FrI (wsI_X12_isAtRest) (fsI_X12_isAtRest) I I := FrI.rf
  have hL : FrL (wsL_X12_isAtRest) (fsL_X12_isAtRest) L L := FrL.rf
  unfold wpX12_isAtRest at h ⊢
  exact mnX12_isAtRest_h2 hQ hF hL h
abbrev wsI_X12_seekRest : List Nat := [160, 159]
abbrev wsL_X12_seekRest : List Nat := []
abbrev fsI_X12_seekRest : List (Nat × Nat) := [(120, 83), (120, 82), (120, 81)]
abbrev fsL_X12_seekRest : List (Nat × Nat) := []
set_option maxRecDepth 10000 in
theorem mnX12_seekRest_b207 {I0 : Ix} {L0 : Lx} {Q Q' : Int32 → Ix → Lx → Prop} {P49 P49' : Int32 → Int32 → Int32 → Int32 → Ix → Lx → Prop} (hQ : ∀ (r : Int32) (I1 : Ix) (L1 : Lx), FrI (wsI_X12_seekRest) (fsI_X12_seekRest) I0 I1 → FrL (wsL_X12_seekRest) (fsL_X12_seekRest) L0 L1 → Q r I1 L1 → Q' r I1 L1) (hP49 : ∀ (v1 : Int32) (v2 : Int32) (v3 : Int32) (v4 : Int32) (I1 : Ix) (L1 : Lx), FrI (wsI_X12_seekRest) (fsI_X12_seekRest) I0 I1 → FrL (wsL_X12_seekRest) (fsL_X12_seekRest) L0 L1 → P49 v1 v2 v3 v4 I1 L1 → P49' v1 v2 v3 v4 I1 L1) {v1 : Int32} {v2 : Int32} {v3 : Int32} {v4 : Int32} {t1 : Int32} {I : Ix} {L : Lx} (hF : FrI (wsI_X12_seekRest) (fsI_X12_seekRest) I0 I) (hL : FrL (wsL_X12_seekRest) (fsL_X12_seekRest) L0 L) (h : wpX12_seekRest_b207 Q P49 v1 v2 v3 v4 t1 I L) : wpX12_seekRest_b207 Q' P49' v1 v2 v3 v4 t1 I L := by
  unfold wpX12_seekRest_b207 at h ⊢
  intro I1 eI1
  have h := h I1 eI1
  have hF := hF.pf eI1 (by decide)
  exact hP49 _ _ _ _ _ _ hF hL h
set_option maxRecDepth 10000 in
theorem mnX12_seekRest_b198 {I0 : Ix} {L0 : Lx} {Q Q' : Int32 → Ix → Lx → Prop} {P49 P49' : Int32 → Int32 → Int32 → Int32 → Ix → Lx → Prop} (hQ : ∀ (r : Int32) (I1 : Ix) (L1 : Lx), FrI (wsI_X12_seekRest) (fsI_X12_seekRest) I0 I1 → FrL (wsL_X12_seekRest) (fsL_X12_seekRest) L0 L1 → Q r I1 L1 → Q' r I1 L1) (hP49 : ∀ (v1 : Int32) (v2 : Int32) (v3 : Int32) (v4 : Int32) (I1 : Ix) (L1 : Lx), FrI (wsI_X12_seekRest) (fsI_X12_seekRest) I0 I1 → FrL (wsL_X12_seekRest) (fsL_X12_seekRest) L0 L1 → P49 v1 v2 v3 v4 I1 L1 → P49' v1 v2 v3 v4 I1 L1) {v1 : Int32} {v2 : Int32} {v3 : Int32} {v4 : Int32} {v6 : Int32} {I : Ix} {L : Lx} (hF : FrI (wsI_X12_seekRest) (fsI_X12_seekRest) I0 I) (hL : FrL (wsL_X12_seekRest) (fsL_X12_seekRest) L0 L) (h : wpX12_seekRest_b198 Q P49 v1 v2 v3 v4 v6 I L) : wpX12_seekRest_b198 Q' P49' v1 v2 v3 v4 v6 I L := by
  unfold wpX12_seekRest_b198 at h ⊢
  exact mnX12_seekRest_b207 hQ hP49 hF hL h
set_option maxRecDepth 10000 in
theorem mnX12_seekRest_b178 {I0 : Ix} {L0 : Lx} {Q Q' : Int32 → Ix → Lx → Prop} {P49 P49' : Int32 → Int32 → Int32 → Int32 → Ix → Lx → Prop} (hQ : ∀ (r : Int32) (I1 : Ix) (L1 : Lx), FrI (wsI_X12_seekRest) (fsI_X12_seekRest) I0 I1 → FrL (wsL_X12_seekRest) (fsL_X12_seekRest) L0 L1 → Q r I1 L1 → Q' r I1 L1) (hP49 : ∀ (v1 : Int32) (v2 : Int32) (v3 : Int32) (v4 : Int32) (I1 : Ix) (L1 : Lx), FrI (wsI_X12_seekRest) (fsI_X12_seekRest) I0 I1 → FrL (wsL_X12_seekRest) (fsL_X12_seekRest) L0 L1 → P49 v1 v2 v3 v4 I1 L1 → P49' v1 v2 v3 v4 I1 L1) {v1 : Int32} {v2 : Int32} {v3 : Int32} {v4 : Int32} {v6 : Int32} {t1 : Int32} {I : Ix} {L : Lx} (hF : FrI (wsI_X12_seekRest) (fsI_X12_seekRest) I0 I) (hL : FrL (wsL_X12_seekRest) (fsL_X12_seekRest) L0 L) (h : wpX12_seekRest_b178 Q P49 v1 v2 v3 v4 v6 t1 I L) : wpX12_seekRest_b178 Q' P49' v1 v2 v3 v4 v6 t1 I L := by
  unfold wpX12_seekRest_b178 at h ⊢
  intro I1 eI1
  have h := h I1 eI1
  have hF := hF.pf eI1 (by decide)
  refine ⟨fun hc => ?_, fun hc => ?_⟩
  · have h := h.1 hc
    exact mnX12_seekRest_b198 hQ hP49 hF hL h
  · have h := h.2 hc
    refine ⟨fun hc => ?_, fun hc => ?_⟩
    · have h := h.1 hc
      exact mnX12_seekRest_b207 hQ hP49 hF hL h
    · have h := h.2 hc
      exact mnX12_seekRest_b198 hQ hP49 hF hL h
set_option maxRecDepth 10000 in
theorem mnX12_seekRest_l133 {I0 : Ix} {L0 : Lx} {Q Q' : Int32 → Ix → Lx → Prop} {P49 P49' : Int32 → Int32 → Int32 → Int32 → Ix → Lx → Prop} {P133 P133' : Int32 → Int32 → Int32 → Int32 → Int32 → Int32 → Int32 → Ix → Lx → Prop} (hQ : ∀ (r : Int32) (I1 : Ix) (L1 : Lx), FrI (wsI_X12_seekRest) (fsI_X12_seekRest) I0 I1 → FrL (wsL_X12_seekRest) (fsL_X12_seekRest) L0 L1 → Q r I1 L1 → Q' r I1 L1) (hP49 : ∀ (v1 : Int32) (v2 : Int32) (v3 : Int32) (v4 : Int32) (I1 : Ix) (L1 : Lx), FrI (wsI_X12_seekRest) (fsI_X12_seekRest) I0 I1 → FrL (wsL_X12_seekRest) (fsL_X12_seekRest) L0 L1 → P49 v1 v2 v3 v4 I1 L1 → P49' v1 v2 v3 v4 I1 L1) (hP133 : ∀ (v1 : Int32) (v2 : Int32) (v3 : Int32) (v4 : Int32) (v5 : Int32) (v6 : Int32) (v7 : Int32) (I1 : Ix) (L1 : Lx), FrI (wsI_X12_seekRest) (fsI_X12_seekRest) I0 I1 → FrL (wsL_X12_seekRest) (fsL_X12_seekRest) L0 L1 → P133 v1 v2 v3 v4 v5 v6 v7 I1 L1 → P133' v1 v2 v3 v4 v5 v6 v7 I1 L1) {v1 : Int32} {v2 : Int32} {v3 : Int32} {v4 : Int32} {v5 : Int32} {v6 : Int32} {v7 : Int32} {I : Ix} {L : Lx} (hF : FrI (wsI_X12_seekRest) (fsI_X12_seekRest) I0 I) (hL : FrL (wsL_X12_seekRest) (fsL_X12_seekRest) L0 L) (h : wpX12_seekRest_l133 Q P49 P133 v1 v2 v3 v4 v5 v6 v7 I L) : wpX12_seekRest_l133 Q' P49' P133' v1 v2 v3 v4 v5 v6 v7 I L := by
  unfold wpX12_seekRest_l133 at h ⊢
  refine ⟨fun hc => ?_, fun hc => ?_⟩
  · have h := h.1 hc
    refine ⟨fun hc => ?_, fun hc => ?_⟩
    · have h := h.1 hc
      exact mnX12_seekRest_b178 hQ hP49 hF hL h
    · have h := h.2 hc
      exact mnX12_seekRest_b178 hQ hP49 hF hL h
  · have h := h.2 hc
    refine mnX12_lostOf (fun r3 I1 L2 hf hl h => ?_) h
    have hF := hF.tr hf (by decide) (by decide)
    have hL := hL.tr hl (by decide) (by decide)
    exact hP133 _ _ _ _ _ _ _ _ _ hF hL h
set_option maxRecDepth 10000 in
theorem mnX12_seekRest_h133 {I0 : Ix} {L0 : Lx} {Q Q' : Int32 → Ix → Lx → Prop} {P49 P49' : Int32 → Int32 → Int32 → Int32 → Ix → Lx → Prop} (hQ : ∀ (r : Int32) (I1 : Ix) (L1 : Lx), FrI (wsI_X12_seekRest) (fsI_X12_seekRest) I0 I1 → FrL (wsL_X12_seekRest) (fsL_X12_seekRest) L0 L1 → Q r I1 L1 → Q' r I1 L1) (hP49 : ∀ (v1 : Int32) (v2 : Int32) (v3 : Int32) (v4 : Int32) (I1 : Ix) (L1 : Lx), FrI (wsI_X12_seekRest) (fsI_X12_seekRest) I0 I1 → FrL (wsL_X12_seekRest) (fsL_X12_seekRest) L0 L1 → P49 v1 v2 v3 v4 I1 L1 → P49' v1 v2 v3 v4 I1 L1) {v1 : Int32} {v2 : Int32} {v3 : Int32} {v4 : Int32} {v5 : Int32} {v6 : Int32} {v7 : Int32} {I : Ix} {L : Lx} (hF : FrI (wsI_X12_seekRest) (fsI_X12_seekRest) I0 I) (hL : FrL (wsL_X12_seekRest) (fsL_X12_seekRest) L0 L) (h : wpX12_seekRest_h133 Q P49 v1 v2 v3 v4 v5 v6 v7 I L) : wpX12_seekRest_h133 Q' P49' v1 v2 v3 v4 v5 v6 v7 I L := by
  unfold wpX12_seekRest_h133 at h
  refine Lfp.ind (P := fun z => FrI (wsI_X12_seekRest) (fsI_X12_seekRest) I0 z.2.2.2.2.2.2.2.1 → FrL (wsL_X12_seekRest) (fsL_X12_seekRest) L0 z.2.2.2.2.2.2.2.2 → wpX12_seekRest_h133 Q' P49' z.1 z.2.1 z.2.2.1 z.2.2.2.1 z.2.2.2.2.1 z.2.2.2.2.2.1 z.2.2.2.2.2.2.1 z.2.2.2.2.2.2.2.1 z.2.2.2.2.2.2.2.2) ?_ h hF hL
  intro z P' hP' h hF hL
  obtain ⟨v1, v2, v3, v4, v5, v6, v7, I, L⟩ := z
  exact wpX12_seekRest_h133_fold (mnX12_seekRest_l133 hQ hP49 (fun v1 v2 v3 v4 v5 v6 v7 I L hF hL h9 => hP' (v1, v2, v3, v4, v5, v6, v7, I, L) h9 hF hL) hF hL h)
set_option maxRecDepth 10000 in
theorem mnX12_seekRest_l104 {I0 : Ix} {L0 : Lx} {Q Q' : Int32 → Ix → Lx → Prop} {P49 P49' : Int32 → Int32 → Int32 → Int32 → Ix → Lx → Prop} {P104 P104' : Int32 → Int32 → Int32 → Int32 → Int32 → Int32 → Int32 → Ix → Lx → Prop} (hQ : ∀ (r : Int32) (I1 : Ix) (L1 : Lx), FrI (wsI_X12_seekRest) (fsI_X12_seekRest) I0 I1 → FrL (wsL_X12_seekRest) (fsL_X12_seekRest) L0 L1 → Q r I1 L1 → Q' r I1 L1) (hP49 : ∀ (v1 : Int32) (v2 : Int32) (v3 : Int32) (v4 : Int32) (I1 : Ix) (L1 : Lx), FrI (wsI_X12_seekRest) (fsI_X12_seekRest) I0 I1 → FrL (wsL_X12_seekRest) (fsL_X12_seekRest) L0 L1 → P49 v1 v2 v3 v4 I1 L1 → P49' v1 v2 v3 v4 I1 L1) (hP104 : ∀ (v1 : Int32) (v2 : Int32) (v3 : Int32) (v4 : Int32) (v5 : Int32) (v6 : Int32) (v7 : Int32) (I1 : Ix) (L1 : Lx), FrI (wsI_X12_seekRest) (fsI_X12_seekRest) I0 I1 → FrL (wsL_X12_seekRest) (fsL_X12_seekRest) L0 L1 → P104 v1 v2 v3 v4 v5 v6 v7 I1 L1 → P104' v1 v2 v3 v4 v5 v6 v7 I1 L1) {v1 : Int32} {v2 : Int32} {v3 : Int32} {v4 : Int32} {v5 : Int32} {v6 : Int32} {v7 : Int32} {I : Ix} {L : Lx} (hF : FrI (wsI_X12_seekRest) (fsI_X12_seekRest) I0 I) (hL : FrL (wsL_X12_seekRest) (fsL_X12_seekRest) L0 L) (h : wpX12_seekRest_l104 Q P49 P104 v1 v2 v3 v4 v5 v6 v7 I L) : wpX12_seekRest_l104 Q' P49' P104' v1 v2 v3 v4 v5 v6 v7 I L := by
  unfold wpX12_seekRest_l104 at h ⊢
  refine ⟨fun hc => ?_, fun hc => ?_⟩
  · have h := h.1 hc
    exact mnX12_seekRest_h133 hQ hP49 hF hL h
  · have h := h.2 hc
    refine mnX12_payOf (fun r3 I1 L2 hf hl h => ?_) h
    have hF := hF.tr hf (by decide) (by decide)
    have hL := hL.tr hl (by decide) (by decide)
    exact hP104 _ _ _ _ _ _ _ _ _ hF hL h
set_option maxRecDepth 10000 in
theorem mnX12_seekRest_h104 {I0 : Ix} {L0 : Lx} {Q Q' : Int32 → Ix → Lx → Prop} {P49 P49' : Int32 → Int32 → Int32 → Int32 → Ix → Lx → Prop} (hQ : ∀ (r : Int32) (I1 : Ix) (L1 : Lx), FrI (wsI_X12_seekRest) (fsI_X12_seekRest) I0 I1 → FrL (wsL_X12_seekRest) (fsL_X12_seekRest) L0 L1 → Q r I1 L1 → Q' r I1 L1) (hP49 : ∀ (v1 : Int32) (v2 : Int32) (v3 : Int32) (v4 : Int32) (I1 : Ix) (L1 : Lx), FrI (wsI_X12_seekRest) (fsI_X12_seekRest) I0 I1 → FrL (wsL_X12_seekRest) (fsL_X12_seekRest) L0 L1 → P49 v1 v2 v3 v4 I1 L1 → P49' v1 v2 v3 v4 I1 L1) {v1 : Int32} {v2 : Int32} {v3 : Int32} {v4 : Int32} {v5 : Int32} {v6 : Int32} {v7 : Int32} {I : Ix} {L : Lx} (hF : FrI (wsI_X12_seekRest) (fsI_X12_seekRest) I0 I) (hL : FrL (wsL_X12_seekRest) (fsL_X12_seekRest) L0 L) (h : wpX12_seekRest_h104 Q P49 v1 v2 v3 v4 v5 v6 v7 I L) : wpX12_seekRest_h104 Q' P49' v1 v2 v3 v4 v5 v6 v7 I L := by
  unfold wpX12_seekRest_h104 at h
  refine Lfp.ind (P := fun z => FrI (wsI_X12_seekRest) (fsI_X12_seekRest) I0 z.2.2.2.2.2.2.2.1 → FrL (wsL_X12_seekRest) (fsL_X12_seekRest) L0 z.2.2.2.2.2.2.2.2 → wpX12_seekRest_h104 Q' P49' z.1 z.2.1 z.2.2.1 z.2.2.2.1 z.2.2.2.2.1 z.2.2.2.2.2.1 z.2.2.2.2.2.2.1 z.2.2.2.2.2.2.2.1 z.2.2.2.2.2.2.2.2) ?_ h hF hL
  intro z P' hP' h hF hL
  obtain ⟨v1, v2, v3, v4, v5, v6, v7, I, L⟩ := z
  exact wpX12_seekRest_h104_fold (mnX12_seekRest_l104 hQ hP49 (fun v1 v2 v3 v4 v5 v6 v7 I L hF hL h9 => hP' (v1, v2, v3, v4, v5, v6, v7, I, L) h9 hF hL) hF hL h)
set_option maxRecDepth 10000 in
theorem mnX12_seekRest_b85 {I0 : Ix} {L0 : Lx} {Q Q' : Int32 → Ix → Lx → Prop} {P49 P49' : Int32 → Int32 → Int32 → Int32 → Ix → Lx → Prop} (hQ : ∀ (r : Int32) (I1 : Ix) (L1 : Lx), FrI (wsI_X12_seekRest) (fsI_X12_seekRest) I0 I1 → FrL (wsL_X12_seekRest) (fsL_X12_seekRest) L0 L1 → Q r I1 L1 → Q' r I1 L1) (hP49 : ∀ (v1 : Int32) (v2 : Int32) (v3 : Int32) (v4 : Int32) (I1 : Ix) (L1 : Lx), FrI (wsI_X12_seekRest) (fsI_X12_seekRest) I0 I1 → FrL (wsL_X12_seekRest) (fsL_X12_seekRest) L0 L1 → P49 v1 v2 v3 v4 I1 L1 → P49' v1 v2 v3 v4 I1 L1) {v1 : Int32} {v2 : Int32} {v3 : Int32} {v4 : Int32} {I : Ix} {L : Lx} (hF : FrI (wsI_X12_seekRest) (fsI_X12_seekRest) I0 I) (hL : FrL (wsL_X12_seekRest) (fsL_X12_seekRest) L0 L) (h : wpX12_seekRest_b85 Q P49 v1 v2 v3 v4 I L) : wpX12_seekRest_b85 Q' P49' v1 v2 v3 v4 I L := by
  unfold wpX12_seekRest_b85 at h ⊢
  intro I1 eI1
  have h := h I1 eI1
  have hF := hF.pf eI1 (by decide)
  exact mnX12_seekRest_h104 hQ hP49 hF hL h
set_option maxRecDepth 10000 in
theorem mnX12_seekRest_l49 {I0 : Ix} {L0 : Lx} {Q Q' : Int32 → Ix → Lx → Prop} {P49 P49' : Int32 → Int32 → Int32 → Int32 → Ix → Lx → Prop} (hQ : ∀ (r : Int32) (I1 : Ix) (L1 : Lx), FrI (wsI_X12_seekRest) (fsI_X12_seekRest) I0 I1 → FrL (wsL_X12_seekRest) (fsL_X12_seekRest) L0 L1 → Q r I1 L1 → Q' r I1 L1) (hP49 : ∀ (v1 : Int32) (v2 : Int32) (v3 : Int32) (v4 : Int32) (I1 : Ix) (L1 : Lx), FrI (wsI_X12_seekRest) (fsI_X12_seekRest) I0 I1 → FrL (wsL_X12_seekRest) (fsL_X12_seekRest) L0 L1 → P49 v1 v2 v3 v4 I1 L1 → P49' v1 v2 v3 v4 I1 L1) {v1 : Int32} {v2 : Int32} {v3 : Int32} {v4 : Int32} {I : Ix} {L : Lx} (hF : FrI (wsI_X12_seekRest) (fsI_X12_seekRest) I0 I) (hL : FrL (wsL_X12_seekRest) (fsL_X12_seekRest) L0 L) (h : wpX12_seekRest_l49 Q P49 v1 v2 v3 v4 I L) : wpX12_seekRest_l49 Q' P49' v1 v2 v3 v4 I L := by
  unfold wpX12_seekRest_l49 at h ⊢
  refine ⟨fun hc => ?_, fun hc => ?_⟩
  · have h := h.1 hc
    exact hQ _ _ _ hF hL h
  · have h := h.2 hc
    refine mnX12_layRow (fun r3 I1 L2 hf hl h => ?_) h
    have hF := hF.tr hf (by decide) (by decide)
    have hL := hL.tr hl (by decide) (by decide)
    refine ⟨fun hc => ?_, fun hc => ?_⟩
    · have h := h.1 hc
      exact hP49 _ _ _ _ _ _ hF hL h
    · have h := h.2 hc
      refine mnX12_isAtRest (fun r6 I4 L5 hf hl h => ?_) h
      have hF := hF.tr hf (by decide) (by decide)
      have hL := hL.tr hl (by decide) (by decide)
      refine ⟨fun hc => ?_, fun hc => ?_⟩
      · have h := h.1 hc
        refine ⟨fun hc => ?_, fun hc => ?_⟩
        · have h := h.1 hc
          exact mnX12_seekRest_b85 hQ hP49 hF hL h
        · have h := h.2 hc
          exact mnX12_seekRest_b85 hQ hP49 hF hL h
      · have h := h.2 hc
        exact hP49 _ _ _ _ _ _ hF hL h
set_option maxRecDepth 10000 in
theorem mnX12_seekRest_h49 {I0 : Ix} {L0 : Lx} {Q Q' : Int32 → Ix → Lx → Prop} (hQ : ∀ (r : Int32) (I1 : Ix) (L1 : Lx), FrI (wsI_X12_seekRest) (fsI_X12_seekRest) I0 I1 → FrL (wsL_X12_seekRest) (fsL_X12_seekRest) L0 L1 → Q r I1 L1 → Q' r I1 L1) {v1 : Int32} {v2 : Int32} {v3 : Int32} {v4 : Int32} {I : Ix} {L : Lx} (hF : FrI (wsI_X12_seekRest) (fsI_X12_seekRest) I0 I) (hL : FrL (wsL_X12_seekRest) (fsL_X12_seekRest) L0 L) (h : wpX12_seekRest_h49 Q v1 v2 v3 v4 I L) : wpX12_seekRest_h49 Q' v1 v2 v3 v4 I L := by
  unfold wpX12_seekRest_h49 at h
  refine Lfp.ind (P := fun z => FrI (wsI_X12_seekRest) (fsI_X12_seekRest) I0 z.2.2.2.2.1 → FrL (wsL_X12_seekRest) (fsL_X12_seekRest) L0 z.2.2.2.2.2 → wpX12_seekRest_h49 Q' z.1 z.2.1 z.2.2.1 z.2.2.2.1 z.2.2.2.2.1 z.2.2.2.2.2) ?_ h hF hL
  intro z P' hP' h hF hL
  obtain ⟨v1, v2, v3, v4, I, L⟩ := z
  exact wpX12_seekRest_h49_fold (mnX12_seekRest_l49 hQ (fun v1 v2 v3 v4 I L hF hL h9 => hP' (v1, v2, v3, v4, I, L) h9 hF hL) hF hL h)
set_option maxRecDepth 10000 in
theorem mnX12_seekRest_l7 {I0 : Ix} {L0 : Lx} {Q Q' : Int32 → Ix → Lx → Prop} {P7 P7' : Int32 → Int32 → Int32 → Int32 → Ix → Lx → Prop} (hQ : ∀ (r : Int32) (I1 : Ix) (L1 : Lx), FrI (wsI_X12_seekRest) (fsI_X12_seekRest) I0 I1 → FrL (wsL_X12_seekRest) (fsL_X12_seekRest) L0 L1 → Q r I1 L1 → Q' r I1 L1) (hP7 : ∀ (v1 : Int32) (v2 : Int32) (v3 : Int32) (v4 : Int32) (I1 : Ix) (L1 : Lx), FrI (wsI_X12_seekRest) (fsI_X12_seekRest) I0 I1 → FrL (wsL_X12_seekRest) (fsL_X12_seekRest) L0 L1 → P7 v1 v2 v3 v4 I1 L1 → P7' v1 v2 v3 v4 I1 L1) {v1 : Int32} {v2 : Int32} {v3 : Int32} {v4 : Int32} {I : Ix} {L : Lx} (hF : FrI (wsI_X12_seekRest) (fsI_X12_seekRest) I0 I) (hL : FrL (wsL_X12_seekRest) (fsL_X12_seekRest) L0 L) (h : wpX12_seekRest_l7 Q P7 v1 v2 v3 v4 I L) : wpX12_seekRest_l7 Q' P7' v1 v2 v3 v4 I L := by
  unfold wpX12_seekRest_l7 at h ⊢
  refine ⟨fun hc => ?_, fun hc => ?_⟩
  · have h := h.1 hc
    intro I1 eI1
    have h := h I1 eI1
    have hF := hF.pf eI1 (by decide)
    intro I2 eI2
    have h := h I2 eI2
    have hF := hF.pf eI2 (by decide)
    intro I3 eI3
    have h := h I3 eI3
    have hF := hF.pf eI3 (by decide)
    exact mnX12_seekRest_h49 hQ hF hL h
  · have h := h.2 hc
    exact hP7 _ _ _ _ _ _ hF hL h
set_option maxRecDepth 10000 in
theorem mnX12_seekRest_h7 {I0 : Ix} {L0 : Lx} {Q Q' : Int32 → Ix → Lx → Prop} (hQ : ∀ (r : Int32) (I1 : Ix) (L1 : Lx), FrI (wsI_X12_seekRest) (fsI_X12_seekRest) I0 I1 → FrL (wsL_X12_seekRest) (fsL_X12_seekRest) L0 L1 → Q r I1 L1 → Q' r I1 L1) {v1 : Int32} {v2 : Int32} {v3 : Int32} {v4 : Int32} {I : Ix} {L : Lx} (hF : FrI (wsI_X12_seekRest) (fsI_X12_seekRest) I0 I) (hL : FrL (wsL_X12_seekRest) (fsL_X12_seekRest) L0 L) (h : wpX12_seekRest_h7 Q v1 v2 v3 v4 I L) : wpX12_seekRest_h7 Q' v1 v2 v3 v4 I L := by
  unfold wpX12_seekRest_h7 at h
  refine Lfp.ind (P := fun z => FrI (wsI_X12_seekRest) (fsI_X12_seekRest) I0 z.2.2.2.2.1 → FrL (wsL_X12_seekRest) (fsL_X12_seekRest) L0 z.2.2.2.2.2 → wpX12_seekRest_h7 Q' z.1 z.2.1 z.2.2.1 z.2.2.2.1 z.2.2.2.2.1 z.2.2.2.2.2) ?_ h hF hL
  intro z P' hP' h hF hL
  obtain ⟨v1, v2, v3, v4, I, L⟩ := z
  exact wpX12_seekRest_h7_fold (mnX12_seekRest_l7 hQ (fun v1 v2 v3 v4 I L hF hL h9 => hP' (v1, v2, v3, v4, I, L) h9 hF hL) hF hL h)
set_option maxRecDepth 10000 in
theorem mnX12_seekRest {a1 : Int32} {I : Ix} {L : Lx} {Q Q' : Int32 → Ix → Lx → Prop} (hQ : ∀ (r : Int32) (I1 : Ix) (L1 : Lx), FrI (wsI_X12_seekRest) (fsI_X12_seekRest) I I1 → FrL (wsL_X12_seekRest) (fsL_X12_seekRest) L L1 → Q r I1 L1 → Q' r I1 L1) (h : wpX12_seekRest a1 I L Q) : wpX12_seekRest a1 I L Q' := by
  have hF : FrI (wsI_X12_seekRest) (fsI_X12_seekRest) I I := FrI.rf
  have hL : FrL (wsL_X12_seekRest) (fsL_X12_seekRest) L L := FrL.rf
  unfold wpX12_seekRest at h ⊢
  exact mnX12_seekRest_h7 hQ hF hL h
abbrev wsI_X12_rest : List Nat := [160, 159]
abbrev wsL_X12_rest : List Nat := []
abbrev fsI_X12_rest : List (Nat × Nat) := [(120, 83), (120, 82), (120, 81)]
abbrev fsL_X12_rest : List (Nat × Nat) := []
set_option maxRecDepth 10000 in
theorem mnX12_rest {a1 : Int32} {I : Ix} {L : Lx} {Q Q' : Int32 → Ix → Lx → Prop} (hQ : ∀ (r : Int32) (I1 : Ix) (L1 : Lx), FrI (wsI_X12_rest) (fsI_X12_rest) I I1 → FrL (wsL_X12_rest) (fsL_X12_rest) L L1 → Q r I1 L1 → Q' r I1 L1) (h : wpX12_rest a1 I L Q) : wpX12_rest a1 I L Q' := by
  have hF : FrI (wsI_X12_rest) (fsI_X12_rest) I I := FrI.rf
  have hL : FrL (wsL_X12_rest) (fsL_X12_rest) L L := FrL.rf
  unfold wpX12_rest at h ⊢
  refine ⟨fun hc => ?_, fun hc => ?_⟩
  · have h := h.1 hc
    exact hQ _ _ _ hF hL h
  · have h := h.2 hc
    refine ⟨fun hc => ?_, fun hc => ?_⟩
    · have h := h.1 hc
      refine mnX12_isTooMany (fun r3 I1 L2 hf hl h => ?_) h
      have hF := hF.tr hf (by decide) (by decide)
      have hL := hL.tr hl (by decide) (by decide)
      refine ⟨fun hc => ?_, fun hc => ?_⟩
      · have h := h.1 hc
        refine mnX12_seekRest (fun r6 I4 L5 hf hl h => ?_) h
        have hF := hF.tr hf (by decide) (by decide)
        have hL := hL.tr hl (by decide) (by decide)
        refine ⟨fun hc => ?_, fun hc => ?_⟩
        · have h := h.1 hc
          refine ⟨fun hc => ?_, fun hc => ?_⟩
          · have h := h.1 hc
            refine ⟨fun hc => ?_, fun hc => ?_⟩
            · have h := h.1 hc
              exact hQ _ _ _ hF hL h
            · have h := h.2 hc
              exact hQ _ _ _ hF hL h
          · have h := h.2 hc
            exact hQ _ _ _ hF hL h
        · have h := h.2 hc
          exact hQ _ _ _ hF hL h
      · have h := h.2 hc
        exact hQ _ _ _ hF hL h
    · have h := h.2 hc
      exact hQ _ _ _ hF hL h
abbrev wsI_X12_stands : List Nat := [160, 159]
abbrev wsL_X12_stands : List Nat := []
abbrev fsI_X12_stands : List (Nat × Nat) := [(120, 83), (120, 82), (120, 81)]
abbrev fsL_X12_stands : List (Nat × Nat) := []
set_option maxRecDepth 10000 in
theorem mnX12_stands_b31 {I0 : Ix} {L0 : Lx} {Q Q' : Int32 → Ix → Lx → Prop} (hQ : ∀ (r : Int32) (I1 : Ix) (L1 : Lx), FrI (wsI_X12_stands) (fsI_X12_stands) I0 I1 → FrL (wsL_X12_stands) (fsL_X12_stands) L0 L1 → Q r I1 L1 → Q' r I1 L1) {v2 : Int32} {t0 : Int32} {I : Ix} {L : Lx} (hF : FrI (wsI_X12_stands) (fsI_X12_stands) I0 I) (hL : FrL (wsL_X12_stands) (fsL_X12_stands) L0 L) (h : wpX12_stands_b31 Q v2 t0 I L) : wpX12_stands_b31 Q' v2 t0 I L := by
  unfold wpX12_stands_b31 at h ⊢
  refine ⟨fun hc => ?_, fun hc => ?_⟩
  · have h := h.1 hc
    refine mnX12_layRow (fun r3 I1 L2 hf hl h => ?_) h
    have hF := hF.tr hf (by decide) (by decide)
    have hL := hL.tr hl (by decide) (by decide)
    refine ⟨fun hc => ?_, fun hc => ?_⟩
    · have h := h.1 hc
      exact hQ _ _ _ hF hL h
    · have h := h.2 hc
      refine ⟨h.1, ?_⟩
      have h := h.2
      exact hQ _ _ _ hF hL h
  · have h := h.2 hc
    exact hQ _ _ _ hF hL h
set_option maxRecDepth 10000 in
theorem mnX12_stands_b22 {I0 : Ix} {L0 : Lx} {Q Q' : Int32 → Ix → Lx → Prop} (hQ : ∀ (r : Int32) (I1 : Ix) (L1 : Lx), FrI (wsI_X12_stands) (fsI_X12_stands) I0 I1 → FrL (wsL_X12_stands) (fsL_X12_stands) L0 L1 → Q r I1 L1 → Q' r I1 L1) {v2 : Int32} {I : Ix} {L : Lx} (hF : FrI (wsI_X12_stands) (fsI_X12_stands) I0 I) (hL : FrL (wsL_X12_stands) (fsL_X12_stands) L0 L) (h : wpX12_stands_b22 Q v2 I L) : wpX12_stands_b22 Q' v2 I L := by
  unfold wpX12_stands_b22 at h ⊢
  exact mnX12_stands_b31 hQ hF hL h
set_option maxRecDepth 10000 in
theorem mnX12_stands {a1 : Int32} {a2 : Int32} {I : Ix} {L : Lx} {Q Q' : Int32 → Ix → Lx → Prop} (hQ : ∀ (r : Int32) (I1 : Ix) (L1 : Lx), FrI (wsI_X12_stands) (fsI_X12_stands) I I1 → FrL (wsL_X12_stands) (fsL_X12_stands) L L1 → Q r I1 L1 → Q' r I1 L1) (h : wpX12_stands a1 a2 I L Q) : wpX12_stands a1 a2 I L Q' := by
  have hF : FrI (wsI_X12_stands) (fsI_X12_stands) I I := FrI.rf
  have hL : FrL (wsL_X12_stands) (fsL_X12_stands) L L := FrL.rf
  unfold wpX12_stands at h ⊢
  refine mnX12_isTooMany (fun r3 I1 L2 hf hl h => ?_) h
  have hF := hF.tr hf (by decide) (by decide)
  have hL := hL.tr hl (by decide) (by decide)
  refine ⟨fun hc => ?_, fun hc => ?_⟩
  · have h := h.1 hc
    refine ⟨fun hc => ?_, fun hc => ?_⟩
    · have h := h.1 hc
      exact mnX12_stands_b22 hQ hF hL h
    · have h := h.2 hc
      refine mnX12_isPerson (fun r6 I4 L5 hf hl h => ?_) h
      have hF := hF.tr hf (by decide) (by decide)
      have hL := hL.tr hl (by decide) (by decide)
      refine ⟨fun hc => ?_, fun hc => ?_⟩
      · have h := h.1 hc
        refine mnX12_seekRest (fun r9 I7 L8 hf hl h => ?_) h
        have hF := hF.tr hf (by decide) (by decide)
        have hL := hL.tr hl (by decide) (by decide)
        exact mnX12_stands_b31 hQ hF hL h
      · have h := h.2 hc
        exact mnX12_stands_b22 hQ hF hL h
  · have h := h.2 hc
    exact hQ _ _ _ hF hL h
abbrev wsI_X12_madeBy : List Nat := [147, 148, 143, 144, 145, 149, 150, 160, 159, 129, 130, 157, 158, 154, 155, 151, 152, 153, 156]
abbrev wsL_X12_madeBy : List Nat := []
abbrev fsI_X12_madeBy : List (Nat × Nat) := [(120, 57), (120, 58), (120, 59), (120, 70), (120, 77), (120, 75), (120, 67), (120, 68), (120, 69)]
abbrev fsL_X12_madeBy : List (Nat × Nat) := []
set_option maxRecDepth 10000 in
theorem mnX12_madeBy_l12 {I0 : Ix} {L0 : Lx} {Q Q' : Int32 → Ix → Lx → Prop} {P12 P12' : Int32 → Int32 → Int32 → Int32 → Ix → Lx → Prop} (hQ : ∀ (r : Int32) (I1 : Ix) (L1 : Lx), FrI (wsI_X12_madeBy) (fsI_X12_madeBy) I0 I1 → FrL (wsL_X12_madeBy) (fsL_X12_madeBy) L0 L1 → Q r I1 L1 → Q' r I1 L1) (hP12 : ∀ (v1 : Int32) (v2 : Int32) (v3 : Int32) (v4 : Int32) (I1 : Ix) (L1 : Lx), FrI (wsI_X12_madeBy) (fsI_X12_madeBy) I0 I1 → FrL (wsL_X12_madeBy) (fsL_X12_madeBy) L0 L1 → P12 v1 v2 v3 v4 I1 L1 → P12' v1 v2 v3 v4 I1 L1) {v1 : Int32} {v2 : Int32} {v3 : Int32} {v4 : Int32} {I : Ix} {L : Lx} (hF : FrI (wsI_X12_madeBy) (fsI_X12_madeBy) I0 I) (hL : FrL (wsL_X12_madeBy) (fsL_X12_madeBy) L0 L) (h : wpX12_madeBy_l12 Q P12 v1 v2 v3 v4 I L) : wpX12_madeBy_l12 Q' P12' v1 v2 v3 v4 I L := by
  unfold wpX12_madeBy_l12 at h ⊢
  refine ⟨fun hc => ?_, fun hc => ?_⟩
  · have h := h.1 hc
    refine mnX12_allMade (fun r3 I1 L2 hf hl h => ?_) h
    have hF := hF.tr hf (by decide) (by decide)
    have hL := hL.tr hl (by decide) (by decide)
    refine mnX12_bring (fun I4 L5 hf hl h => ?_) h
    have hF := hF.tr hf (by decide) (by decide)
    have hL := hL.tr hl (by decide) (by decide)
    exact hQ _ _ _ hF hL h
  · have h := h.2 hc
    refine mnX12_doDay (fun I6 L7 hf hl h => ?_) h
    have hF := hF.tr hf (by decide) (by decide)
    have hL := hL.tr hl (by decide) (by decide)
    exact hP12 _ _ _ _ _ _ hF hL h
set_option maxRecDepth 10000 in
theorem mnX12_madeBy_h12 {I0 : Ix} {L0 : Lx} {Q Q' : Int32 → Ix → Lx → Prop} (hQ : ∀ (r : Int32) (I1 : Ix) (L1 : Lx), FrI (wsI_X12_madeBy) (fsI_X12_madeBy) I0 I1 → FrL (wsL_X12_madeBy) (fsL_X12_madeBy) L0 L1 → Q r I1 L1 → Q' r I1 L1) {v1 : Int32} {v2 : Int32} {v3 : Int32} {v4 : Int32} {I : Ix} {L : Lx} (hF : FrI (wsI_X12_madeBy) (fsI_X12_madeBy) I0 I) (hL : FrL (wsL_X12_madeBy) (fsL_X12_madeBy) L0 L) (h : wpX12_madeBy_h12 Q v1 v2 v3 v4 I L) : wpX12_madeBy_h12 Q' v1 v2 v3 v4 I L := by
  unfold wpX12_madeBy_h12 at h
  refine Lfp.ind (P := fun z => FrI (wsI_X12_madeBy) (fsI_X12_madeBy) I0 z.2.2.2.2.1 → FrL (wsL_X12_madeBy) (fsL_X12_madeBy) L0 z.2.2.2.2.2 → wpX12_madeBy_h12 Q' z.1 z.2.1 z.2.2.1 z.2.2.2.1 z.2.2.2.2.1 z.2.2.2.2.2) ?_ h hF hL
  intro z P' hP' h hF hL
  obtain ⟨v1, v2, v3, v4, I, L⟩ := z
  exact wpX12_madeBy_h12_fold (mnX12_madeBy_l12 hQ (fun v1 v2 v3 v4 I L hF hL h9 => hP' (v1, v2, v3, v4, I, L) h9 hF hL) hF hL h)
set_option maxRecDepth 10000 in
theorem mnX12_madeBy {a1 : Int32} {a2 : Int32} {I : Ix} {L : Lx} {Q Q' : Int32 → Ix → Lx → Prop} (hQ : ∀ (r : Int32) (I1 : Ix) (L1 : Lx), FrI (wsI_X12_madeBy) (fsI_X12_madeBy) I I1 → FrL (wsL_X12_madeBy) (fsL_X12_madeBy) L L1 → Q r I1 L1 → Q' r I1 L1) (h : wpX12_madeBy a1 a2 I L Q) : wpX12_madeBy a1 a2 I L Q' := by
  have hF : FrI (wsI_X12_madeBy) (fsI_X12_madeBy) I I := FrI.rf
  have hL : FrL (wsL_X12_madeBy) (fsL_X12_madeBy) L L := FrL.rf
  unfold wpX12_madeBy at h ⊢
  refine mnX12_put (fun I1 L2 hf hl h => ?_) h
  have hF := hF.tr hf (by decide) (by decide)
  have hL := hL.tr hl (by decide) (by decide)
  refine mnX12_allMade (fun r5 I3 L4 hf hl h => ?_) h
  have hF := hF.tr hf (by decide) (by decide)
  have hL := hL.tr hl (by decide) (by decide)
  exact mnX12_madeBy_h12 hQ hF hL h
abbrev wsI_X12_isTerm : List Nat := []
abbrev wsL_X12_isTerm : List Nat := []
abbrev fsI_X12_isTerm : List (Nat × Nat) := []
abbrev fsL_X12_isTerm : List (Nat × Nat) := []
set_option maxRecDepth 10000 in
theorem mnX12_isTerm {a0 : Int32} {I : Ix} {L : Lx} {Q Q' : Bool → Ix → Lx → Prop} (hQ : ∀ (r : Bool) (I1 : Ix) (L1 : Lx), FrI (wsI_X12_isTerm) (fsI_X12_isTerm) I I1 → FrL (wsL_X12_isTerm) (fsL_X12_isTerm) L L1 → Q r I1 L1 → Q' r I1 L1) (h : wpX12_isTerm a0 I L Q) : wpX12_isTerm a0 I L Q' := by
  have hF : FrI (wsI_X12_isTerm) (fsI_X12_isTerm) I I := FrI.rf
  have hL : FrL (wsL_X12_isTerm) (fsL_X12_isTerm) L L := FrL.rf
  unfold wpX12_isTerm at h ⊢
  refine ⟨fun hc => ?_, fun hc => ?_⟩
  · have h := h.1 hc
    exact hQ _ _ _ hF hL h
  · have h := h.2 hc
    refine ⟨fun hc => ?_, fun hc => ?_⟩
    · have h := h.1 hc
      exact hQ _ _ _ hF hL h
    · have h := h.2 hc
      exact hQ _ _ _ hF hL h
abbrev wsI_X12_made : List Nat := [147, 148, 143, 144, 145, 149, 150, 160, 159, 129, 130, 157, 158, 154, 155, 151, 152, 153, 156]
abbrev wsL_X12_made : List Nat := []
abbrev fsI_X12_made : List (Nat × Nat) := [(120, 57), (120, 58), (120, 59), (120, 70), (120, 77), (120, 75), (120, 67), (120, 68), (120, 69)]
abbrev fsL_X12_made : List (Nat × Nat) := []
set_option maxRecDepth 10000 in
theorem mnX12_made_b36 {I0 : Ix} {L0 : Lx} {Q Q' : Int32 → Ix → Lx → Prop} (hQ : ∀ (r : Int32) (I1 : Ix) (L1 : Lx), FrI (wsI_X12_made) (fsI_X12_made) I0 I1 → FrL (wsL_X12_made) (fsL_X12_made) L0 L1 → Q r I1 L1 → Q' r I1 L1) {t1 : Int32} {t2 : Int32} {I : Ix} {L : Lx} (hF : FrI (wsI_X12_made) (fsI_X12_made) I0 I) (hL : FrL (wsL_X12_made) (fsL_X12_made) L0 L) (h : wpX12_made_b36 Q t1 t2 I L) : wpX12_made_b36 Q' t1 t2 I L := by
  unfold wpX12_made_b36 at h ⊢
  refine mnX12_madeBy (fun r3 I1 L2 hf hl h => ?_) h
  have hF := hF.tr hf (by decide) (by decide)
  have hL := hL.tr hl (by decide) (by decide)
  exact hQ _ _ _ hF hL h
set_option maxRecDepth 10000 in
theorem mnX12_made_b16 {I0 : Ix} {L0 : Lx} {Q Q' : Int32 → Ix → Lx → Prop} (hQ : ∀ (r : Int32) (I1 : Ix) (L1 : Lx), FrI (wsI_X12_made) (fsI_X12_made) I0 I1 → FrL (wsL_X12_made) (fsL_X12_made) L0 L1 → Q r I1 L1 → Q' r I1 L1) {I : Ix} {L : Lx} (hF : FrI (wsI_X12_made) (fsI_X12_made) I0 I) (hL : FrL (wsL_X12_made) (fsL_X12_made) L0 L) (h : wpX12_made_b16 Q I L) : wpX12_made_b16 Q' I L := by
  unfold wpX12_made_b16 at h ⊢
  exact hQ _ _ _ hF hL h
set_option maxRecDepth 10000 in
theorem mnX12_made {a1 : Int32} {a2 : Int32} {I : Ix} {L : Lx} {Q Q' : Int32 → Ix → Lx → Prop} (hQ : ∀ (r : Int32) (I1 : Ix) (L1 : Lx), FrI (wsI_X12_made) (fsI_X12_made) I I1 → FrL (wsL_X12_made) (fsL_X12_made) L L1 → Q r I1 L1 → Q' r I1 L1) (h : wpX12_made a1 a2 I L Q) : wpX12_made a1 a2 I L Q' := by
  have hF : FrI (wsI_X12_made) (fsI_X12_made) I I := FrI.rf
  have hL : FrL (wsL_X12_made) (fsL_X12_made) L L := FrL.rf
  unfold wpX12_made at h ⊢
  refine mnX12_isTerm (fun r3 I1 L2 hf hl h => ?_) h
  have hF := hF.tr hf (by decide) (by decide)
  have hL := hL.tr hl (by decide) (by decide)
  refine ⟨fun hc => ?_, fun hc => ?_⟩
  · have h := h.1 hc
    exact mnX12_made_b16 hQ hF hL h
  · have h := h.2 hc
    refine ⟨fun hc => ?_, fun hc => ?_⟩
    · have h := h.1 hc
      exact mnX12_made_b16 hQ hF hL h
    · have h := h.2 hc
      refine ⟨fun hc => ?_, fun hc => ?_⟩
      · have h := h.1 hc
        refine ⟨fun hc => ?_, fun hc => ?_⟩
        · have h := h.1 hc
          exact mnX12_made_b36 hQ hF hL h
        · have h := h.2 hc
          exact mnX12_made_b36 hQ hF hL h
      · have h := h.2 hc
        exact mnX12_made_b16 hQ hF hL h
abbrev wsI_X12_law : List Nat := [147, 148, 143, 144, 145, 149, 150, 160, 159, 129, 130, 157, 158, 154, 155, 151, 152, 153, 156]
abbrev wsL_X12_law : List Nat := []
abbrev fsI_X12_law : List (Nat × Nat) := [(120, 57), (120, 58), (120, 59), (120, 70), (120, 77), (120, 75), (120, 67), (120, 68), (120, 69)]
abbrev fsL_X12_law : List (Nat × Nat) := []
set_option maxRecDepth 10000 in
theorem mnX12_law_l13 {I0 : Ix} {L0 : Lx} {Q Q' : Int32 → Ix → Lx → Prop} {P13 P13' : Int32 → Int32 → Int32 → Ix → Lx → Prop} (hQ : ∀ (r : Int32) (I1 : Ix) (L1 : Lx), FrI (wsI_X12_law) (fsI_X12_law) I0 I1 → FrL (wsL_X12_law) (fsL_X12_law) L0 L1 → Q r I1 L1 → Q' r I1 L1) (hP13 : ∀ (v1 : Int32) (v2 : Int32) (v3 : Int32) (I1 : Ix) (L1 : Lx), FrI (wsI_X12_law) (fsI_X12_law) I0 I1 → FrL (wsL_X12_law) (fsL_X12_law) L0 L1 → P13 v1 v2 v3 I1 L1 → P13' v1 v2 v3 I1 L1) {v1 : Int32} {v2 : Int32} {v3 : Int32} {I : Ix} {L : Lx} (hF : FrI (wsI_X12_law) (fsI_X12_law) I0 I) (hL : FrL (wsL_X12_law) (fsL_X12_law) L0 L) (h : wpX12_law_l13 Q P13 v1 v2 v3 I L) : wpX12_law_l13 Q' P13' v1 v2 v3 I L := by
  unfold wpX12_law_l13 at h ⊢
  refine ⟨fun hc => ?_, fun hc => ?_⟩
  · have h := h.1 hc
    exact hQ _ _ _ hF hL h
  · have h := h.2 hc
    refine mnX12_madeBy (fun r3 I1 L2 hf hl h => ?_) h
    have hF := hF.tr hf (by decide) (by decide)
    have hL := hL.tr hl (by decide) (by decide)
    refine mnX12_madeBy (fun r6 I4 L5 hf hl h => ?_) h
    have hF := hF.tr hf (by decide) (by decide)
    have hL := hL.tr hl (by decide) (by decide)
    refine ⟨fun hc => ?_, fun hc => ?_⟩
    · have h := h.1 hc
      exact hP13 _ _ _ _ _ hF hL h
    · have h := h.2 hc
      exact hP13 _ _ _ _ _ hF hL h
set_option maxRecDepth 10000 in
theorem mnX12_law_h13 {I0 : Ix} {L0 : Lx} {Q Q' : Int32 → Ix → Lx → Prop} (hQ : ∀ (r : Int32) (I1 : Ix) (L1 : Lx), FrI (wsI_X12_law) (fsI_X12_law) I0 I1 → FrL (wsL_X12_law) (fsL_X12_law) L0 L1 → Q r I1 L1 → Q' r I1 L1) {v1 : Int32} {v2 : Int32} {v3 : Int32} {I : Ix} {L : Lx} (hF : FrI (wsI_X12_law) (fsI_X12_law) I0 I) (hL : FrL (wsL_X12_law) (fsL_X12_law) L0 L) (h : wpX12_law_h13 Q v1 v2 v3 I L) : wpX12_law_h13 Q' v1 v2 v3 I L := by
  unfold wpX12_law_h13 at h
  refine Lfp.ind (P := fun z => FrI (wsI_X12_law) (fsI_X12_law) I0 z.2.2.2.1 → FrL (wsL_X12_law) (fsL_X12_law) L0 z.2.2.2.2 → wpX12_law_h13 Q' z.1 z.2.1 z.2.2.1 z.2.2.2.1 z.2.2.2.2) ?_ h hF hL
  intro z P' hP' h hF hL
  obtain ⟨v1, v2, v3, I, L⟩ := z
  exact wpX12_law_h13_fold (mnX12_law_l13 hQ (fun v1 v2 v3 I L hF hL h9 => hP' (v1, v2, v3, I, L) h9 hF hL) hF hL h)
set_option maxRecDepth 10000 in
theorem mnX12_law {a1 : Int32} {I : Ix} {L : Lx} {Q Q' : Int32 → Ix → Lx → Prop} (hQ : ∀ (r : Int32) (I1 : Ix) (L1 : Lx), FrI (wsI_X12_law) (fsI_X12_law) I I1 → FrL (wsL_X12_law) (fsL_X12_law) L L1 → Q r I1 L1 → Q' r I1 L1) (h : wpX12_law a1 I L Q) : wpX12_law a1 I L Q' := by
  have hF : FrI (wsI_X12_law) (fsI_X12_law) I I := FrI.rf
  have hL : FrL (wsL_X12_law) (fsL_X12_law) L L := FrL.rf
  unfold wpX12_law at h ⊢
  refine mnX12_isTerm (fun r3 I1 L2 hf hl h => ?_) h
  have hF := hF.tr hf (by decide) (by decide)
  have hL := hL.tr hl (by decide) (by decide)
  refine ⟨fun hc => ?_, fun hc => ?_⟩
  · have h := h.1 hc
    exact mnX12_law_h13 hQ hF hL h
  · have h := h.2 hc
    exact hQ _ _ _ hF hL h
abbrev wsI_X12_usedOf : List Nat := []
abbrev wsL_X12_usedOf : List Nat := []
abbrev fsI_X12_usedOf : List (Nat × Nat) := []
abbrev fsL_X12_usedOf : List (Nat × Nat) := []
set_option maxRecDepth 10000 in
theorem mnX12_usedOf_b44 {I0 : Ix} {L0 : Lx} {Q Q' : Int64 → Ix → Lx → Prop} (hQ : ∀ (r : Int64) (I1 : Ix) (L1 : Lx), FrI (wsI_X12_usedOf) (fsI_X12_usedOf) I0 I1 → FrL (wsL_X12_usedOf) (fsL_X12_usedOf) L0 L1 → Q r I1 L1 → Q' r I1 L1) {v1 : Int32} {v2 : Int32} {v3 : Int32} {v4 : Int32} {v5 : Int64} {t0 : Int32} {I : Ix} {L : Lx} (hF : FrI (wsI_X12_usedOf) (fsI_X12_usedOf) I0 I) (hL : FrL (wsL_X12_usedOf) (fsL_X12_usedOf) L0 L) (h : wpX12_usedOf_b44 Q v1 v2 v3 v4 v5 t0 I L) : wpX12_usedOf_b44 Q' v1 v2 v3 v4 v5 t0 I L := by
  unfold wpX12_usedOf_b44 at h ⊢
  refine ⟨fun hc => ?_, fun hc => ?_⟩
  · have h := h.1 hc
    refine ⟨h.1, ?_⟩
    have h := h.2
    refine mnX12_lower (fun r3 I1 L2 hf hl h => ?_) h
    have hF := hF.tr hf (by decide) (by decide)
    have hL := hL.tr hl (by decide) (by decide)
    refine ⟨h.1, ?_⟩
    have h := h.2
    exact hQ _ _ _ hF hL h
  · have h := h.2 hc
    exact hQ _ _ _ hF hL h
set_option maxRecDepth 10000 in
theorem mnX12_usedOf_b43 {I0 : Ix} {L0 : Lx} {Q Q' : Int64 → Ix → Lx → Prop} (hQ : ∀ (r : Int64) (I1 : Ix) (L1 : Lx), FrI (wsI_X12_usedOf) (fsI_X12_usedOf) I0 I1 → FrL (wsL_X12_usedOf) (fsL_X12_usedOf) L0 L1 → Q r I1 L1 → Q' r I1 L1) {v1 : Int32} {v2 : Int32} {v3 : Int32} {v4 : Int32} {v5 : Int64} {I : Ix} {L : Lx} (hF : FrI (wsI_X12_usedOf) (fsI_X12_usedOf) I0 I) (hL : FrL (wsL_X12_usedOf) (fsL_X12_usedOf) L0 L) (h : wpX12_usedOf_b43 Q v1 v2 v3 v4 v5 I L) : wpX12_usedOf_b43 Q' v1 v2 v3 v4 v5 I L := by
  unfold wpX12_usedOf_b43 at h ⊢
  exact mnX12_usedOf_b44 hQ hF hL h
set_option maxRecDepth 10000 in
theorem mnX12_usedOf {a1 : Int32} {a2 : Int32} {a3 : Int32} {a4 : Int32} {I : Ix} {L : Lx} {Q Q' : Int64 → Ix → Lx → Prop} (hQ : ∀ (r : Int64) (I1 : Ix) (L1 : Lx), FrI (wsI_X12_usedOf) (fsI_X12_usedOf) I I1 → FrL (wsL_X12_usedOf) (fsL_X12_usedOf) L L1 → Q r I1 L1 → Q' r I1 L1) (h : wpX12_usedOf a1 a2 a3 a4 I L Q) : wpX12_usedOf a1 a2 a3 a4 I L Q' := by
  have hF : FrI (wsI_X12_usedOf) (fsI_X12_usedOf) I I := FrI.rf
  have hL : FrL (wsL_X12_usedOf) (fsL_X12_usedOf) L L := FrL.rf
  unfold wpX12_usedOf at h ⊢
  refine ⟨h.1, ?_⟩
  have h := h.2
  refine ⟨h.1, ?_⟩
  have h := h.2
  refine ⟨fun hc => ?_, fun hc => ?_⟩
  · have h := h.1 hc
    exact mnX12_usedOf_b43 hQ hF hL h
  · have h := h.2 hc
    refine ⟨fun hc => ?_, fun hc => ?_⟩
    · have h := h.1 hc
      exact mnX12_usedOf_b43 hQ hF hL h
    · have h := h.2 hc
      exact mnX12_usedOf_b44 hQ hF hL h
abbrev wsI_X12_bestUse : List Nat := []
abbrev wsL_X12_bestUse : List Nat := []
abbrev fsI_X12_bestUse : List (Nat × Nat) := [(120, 86)]
abbrev fsL_X12_bestUse : List (Nat × Nat) := []
set_option maxRecDepth 10000 in
theorem mnX12_bestUse_l8 {I0 : Ix} {L0 : Lx} {Q Q' : Int64 → Ix → Lx → Prop} {P8 P8' : Int32 → Int32 → Int32 → Int64 → Int32 → Ix → Lx → Prop} (hQ : ∀ (r : Int64) (I1 : Ix) (L1 : Lx), FrI (wsI_X12_bestUse) (fsI_X12_bestUse) I0 I1 → FrL (wsL_X12_bestUse) (fsL_X12_bestUse) L0 L1 → Q r I1 L1 → Q' r I1 L1) (hP8 : ∀ (v1 : Int32) (v2 : Int32) (v3 : Int32) (v4 : Int64) (v6 : Int32) (I1 : Ix) (L1 : Lx), FrI (wsI_X12_bestUse) (fsI_X12_bestUse) I0 I1 → FrL (wsL_X12_bestUse) (fsL_X12_bestUse) L0 L1 → P8 v1 v2 v3 v4 v6 I1 L1 → P8' v1 v2 v3 v4 v6 I1 L1) {v1 : Int32} {v2 : Int32} {v3 : Int32} {v4 : Int64} {v6 : Int32} {I : Ix} {L : Lx} (hF : FrI (wsI_X12_bestUse) (fsI_X12_bestUse) I0 I) (hL : FrL (wsL_X12_bestUse) (fsL_X12_bestUse) L0 L) (h : wpX12_bestUse_l8 Q P8 v1 v2 v3 v4 v6 I L) : wpX12_bestUse_l8 Q' P8' v1 v2 v3 v4 v6 I L := by
  unfold wpX12_bestUse_l8 at h ⊢
  refine ⟨fun hc => ?_, fun hc => ?_⟩
  · have h := h.1 hc
    exact hQ _ _ _ hF hL h
  · have h := h.2 hc
    refine mnX12_usedOf (fun r3 I1 L2 hf hl h => ?_) h
    have hF := hF.tr hf (by decide) (by decide)
    have hL := hL.tr hl (by decide) (by decide)
    refine ⟨fun hc => ?_, fun hc => ?_⟩
    · have h := h.1 hc
      intro I4 eI4
      have h := h I4 eI4
      have hF := hF.pf eI4 (by decide)
      exact hP8 _ _ _ _ _ _ _ hF hL h
    · have h := h.2 hc
      exact hP8 _ _ _ _ _ _ _ hF hL h
set_option maxRecDepth 10000 in
theorem mnX12_bestUse_h8 {I0 : Ix} {L0 : Lx} {Q Q' : Int64 → Ix → Lx → Prop} (hQ : ∀ (r : Int64) (I1 : Ix) (L1 : Lx), FrI (wsI_X12_bestUse) (fsI_X12_bestUse) I0 I1 → FrL (wsL_X12_bestUse) (fsL_X12_bestUse) L0 L1 → Q r I1 L1 → Q' r I1 L1) {v1 : Int32} {v2 : Int32} {v3 : Int32} {v4 : Int64} {v6 : Int32} {I : Ix} {L : Lx} (hF : FrI (wsI_X12_bestUse) (fsI_X12_bestUse) I0 I) (hL : FrL (wsL_X12_bestUse) (fsL_X12_bestUse) L0 L) (h : wpX12_bestUse_h8 Q v1 v2 v3 v4 v6 I L) : wpX12_bestUse_h8 Q' v1 v2 v3 v4 v6 I L := by
  unfold wpX12_bestUse_h8 at h
  refine Lfp.ind (P := fun z => FrI (wsI_X12_bestUse) (fsI_X12_bestUse) I0 z.2.2.2.2.2.1 → FrL (wsL_X12_bestUse) (fsL_X12_bestUse) L0 z.2.2.2.2.2.2 → wpX12_bestUse_h8 Q' z.1 z.2.1 z.2.2.1 z.2.2.2.1 z.2.2.2.2.1 z.2.2.2.2.2.1 z.2.2.2.2.2.2) ?_ h hF hL
  intro z P' hP' h hF hL
  obtain ⟨v1, v2, v3, v4, v6, I, L⟩ := z
  exact wpX12_bestUse_h8_fold (mnX12_bestUse_l8 hQ (fun v1 v2 v3 v4 v6 I L hF hL h9 => hP' (v1, v2, v3, v4, v6, I, L) h9 hF hL) hF hL h)
set_option maxRecDepth 10000 in
theorem mnX12_bestUse {a1 : Int32} {a2 : Int32} {a3 : Int32} {I : Ix} {L : Lx} {Q Q' : Int64 → Ix → Lx → Prop} (hQ : ∀ (r : Int64) (I1 : Ix) (L1 : Lx), FrI (wsI_X12_bestUse) (fsI_X12_bestUse) I I1 → FrL (wsL_X12_bestUse) (fsL_X12_bestUse) L L1 → Q r I1 L1 → Q' r I1 L1) (h : wpX12_bestUse a1 a2 a3 I L Q) : wpX12_bestUse a1 a2 a3 I L Q' := by
  have hF : FrI (wsI_X12_bestUse) (fsI_X12_bestUse) I I := FrI.rf
  have hL : FrL (wsL_X12_bestUse) (fsL_X12_bestUse) L L := FrL.rf
  unfold wpX12_bestUse at h ⊢
  exact mnX12_bestUse_h8 hQ hF hL h
abbrev wsI_X12_used : List Nat := []
abbrev wsL_X12_used : List Nat := [162, 161]
abbrev fsI_X12_used : List (Nat × Nat) := [(120, 86)]
abbrev fsL_X12_used : List (Nat × Nat) := []
set_option maxRecDepth 10000 in
theorem mnX12_used_l118 {I0 : Ix} {L0 : Lx} {Q Q' : Int32 → Ix → Lx → Prop} {P78 P78' : Int32 → Int32 → Int32 → Int32 → Int32 → Ix → Lx → Prop} {P118 P118' : Int32 → Int32 → Int32 → Int32 → Int32 → Int32 → Ix → Lx → Prop} (hQ : ∀ (r : Int32) (I1 : Ix) (L1 : Lx), FrI (wsI_X12_used) (fsI_X12_used) I0 I1 → FrL (wsL_X12_used) (fsL_X12_used) L0 L1 → Q r I1 L1 → Q' r I1 L1) (hP78 : ∀ (v1 : Int32) (v2 : Int32) (v3 : Int32) (v4 : Int32) (v5 : Int32) (I1 : Ix) (L1 : Lx), FrI (wsI_X12_used) (fsI_X12_used) I0 I1 → FrL (wsL_X12_used) (fsL_X12_used) L0 L1 → P78 v1 v2 v3 v4 v5 I1 L1 → P78' v1 v2 v3 v4 v5 I1 L1) (hP118 : ∀ (v1 : Int32) (v2 : Int32) (v3 : Int32) (v4 : Int32) (v5 : Int32) (v6 : Int32) (I1 : Ix) (L1 : Lx), FrI (wsI_X12_used) (fsI_X12_used) I0 I1 → FrL (wsL_X12_used) (fsL_X12_used) L0 L1 → P118 v1 v2 v3 v4 v5 v6 I1 L1 → P118' v1 v2 v3 v4 v5 v6 I1 L1) {v1 : Int32} {v2 : Int32} {v3 : Int32} {v4 : Int32} {v5 : Int32} {v6 : Int32} {I : Ix} {L : Lx} (hF : FrI (wsI_X12_used) (fsI_X12_used) I0 I) (hL : FrL (wsL_X12_used) (fsL_X12_used) L0 L) (h : wpX12_used_l118 Q P78 P118 v1 v2 v3 v4 v5 v6 I L) : wpX12_used_l118 Q' P78' P118' v1 v2 v3 v4 v5 v6 I L := by
  unfold wpX12_used_l118 at h ⊢
  refine ⟨fun hc => ?_, fun hc => ?_⟩
  · have h := h.1 hc
    exact hP78 _ _ _ _ _ _ _ hF hL h
  · have h := h.2 hc
    refine ⟨h.1, ?_⟩
    have h := h.2
    refine ⟨h.1, ?_⟩
    have h := h.2
    intro L1 eL1
    have h := h L1 eL1
    have hL := hL.pw eL1 (by decide)
    exact hP118 _ _ _ _ _ _ _ _ hF hL h
set_option maxRecDepth 10000 in
theorem mnX12_used_h118 {I0 : Ix} {L0 : Lx} {Q Q' : Int32 → Ix → Lx → Prop} {P78 P78' : Int32 → Int32 → Int32 → Int32 → Int32 → Ix → Lx → Prop} (hQ : ∀ (r : Int32) (I1 : Ix) (L1 : Lx), FrI (wsI_X12_used) (fsI_X12_used) I0 I1 → FrL (wsL_X12_used) (fsL_X12_used) L0 L1 → Q r I1 L1 → Q' r I1 L1) (hP78 : ∀ (v1 : Int32) (v2 : Int32) (v3 : Int32) (v4 : Int32) (v5 : Int32) (I1 : Ix) (L1 : Lx), FrI (wsI_X12_used) (fsI_X12_used) I0 I1 → FrL (wsL_X12_used) (fsL_X12_used) L0 L1 → P78 v1 v2 v3 v4 v5 I1 L1 → P78' v1 v2 v3 v4 v5 I1 L1) {v1 : Int32} {v2 : Int32} {v3 : Int32} {v4 : Int32} {v5 : Int32} {v6 : Int32} {I : Ix} {L : Lx} (hF : FrI (wsI_X12_used) (fsI_X12_used) I0 I) (hL : FrL (wsL_X12_used) (fsL_X12_used) L0 L) (h : wpX12_used_h118 Q P78 v1 v2 v3 v4 v5 v6 I L) : wpX12_used_h118 Q' P78' v1 v2 v3 v4 v5 v6 I L := by
  unfold wpX12_used_h118 at h
  refine Lfp.ind (P := fun z => FrI (wsI_X12_used) (fsI_X12_used) I0 z.2.2.2.2.2.2.1 → FrL (wsL_X12_used) (fsL_X12_used) L0 z.2.2.2.2.2.2.2 → wpX12_used_h118 Q' P78' z.1 z.2.1 z.2.2.1 z.2.2.2.1 z.2.2.2.2.1 z.2.2.2.2.2.1 z.2.2.2.2.2.2.1 z.2.2.2.2.2.2.2) ?_ h hF hL
  intro z P' hP' h hF hL
  obtain ⟨v1, v2, v3, v4, v5, v6, I, L⟩ := z
  exact wpX12_used_h118_fold (mnX12_used_l118 hQ hP78 (fun v1 v2 v3 v4 v5 v6 I L hF hL h9 => hP' (v1, v2, v3, v4, v5, v6, I, L) h9 hF hL) hF hL h)
set_option maxRecDepth 10000 in
theorem mnX12_used_l87 {I0 : Ix} {L0 : Lx} {Q Q' : Int32 → Ix → Lx → Prop} {P78 P78' : Int32 → Int32 → Int32 → Int32 → Int32 → Ix → Lx → Prop} {P87 P87' : Int32 → Int32 → Int32 → Int32 → Int32 → Int32 → Ix → Lx → Prop} (hQ : ∀ (r : Int32) (I1 : Ix) (L1 : Lx), FrI (wsI_X12_used) (fsI_X12_used) I0 I1 → FrL (wsL_X12_used) (fsL_X12_used) L0 L1 → Q r I1 L1 → Q' r I1 L1) (hP78 : ∀ (v1 : Int32) (v2 : Int32) (v3 : Int32) (v4 : Int32) (v5 : Int32) (I1 : Ix) (L1 : Lx), FrI (wsI_X12_used) (fsI_X12_used) I0 I1 → FrL (wsL_X12_used) (fsL_X12_used) L0 L1 → P78 v1 v2 v3 v4 v5 I1 L1 → P78' v1 v2 v3 v4 v5 I1 L1) (hP87 : ∀ (v1 : Int32) (v2 : Int32) (v3 : Int32) (v4 : Int32) (v5 : Int32) (v6 : Int32) (I1 : Ix) (L1 : Lx), FrI (wsI_X12_used) (fsI_X12_used) I0 I1 → FrL (wsL_X12_used) (fsL_X12_used) L0 L1 → P87 v1 v2 v3 v4 v5 v6 I1 L1 → P87' v1 v2 v3 v4 v5 v6 I1 L1) {v1 : Int32} {v2 : Int32} {v3 : Int32} {v4 : Int32} {v5 : Int32} {v6 : Int32} {I : Ix} {L : Lx} (hF : FrI (wsI_X12_used) (fsI_X12_used) I0 I) (hL : FrL (wsL_X12_used) (fsL_X12_used) L0 L) (h : wpX12_used_l87 Q P78 P87 v1 v2 v3 v4 v5 v6 I L) : wpX12_used_l87 Q' P78' P87' v1 v2 v3 v4 v5 v6 I L := by
  unfold wpX12_used_l87 at h ⊢
  refine ⟨fun hc => ?_, fun hc => ?_⟩
  · have h := h.1 hc
    exact mnX12_used_h118 hQ hP78 hF hL h
  · have h := h.2 hc
    refine mnX12_bestUse (fun r3 I1 L2 hf hl h => ?_) h
    have hF := hF.tr hf (by decide) (by decide)
    have hL := hL.tr hl (by decide) (by decide)
    refine ⟨h.1, ?_⟩
    have h := h.2
    intro L4 eL4
    have h := h L4 eL4
    have hL := hL.pw eL4 (by decide)
    exact hP87 _ _ _ _ _ _ _ _ hF hL h
set_option maxRecDepth 10000 in
theorem mnX12_used_h87 {I0 : Ix} {L0 : Lx} {Q Q' : Int32 → Ix → Lx → Prop} {P78 P78' : Int32 → Int32 → Int32 → Int32 → Int32 → Ix → Lx → Prop} (hQ : ∀ (r : Int32) (I1 : Ix) (L1 : Lx), FrI (wsI_X12_used) (fsI_X12_used) I0 I1 → FrL (wsL_X12_used) (fsL_X12_used) L0 L1 → Q r I1 L1 → Q' r I1 L1) (hP78 : ∀ (v1 : Int32) (v2 : Int32) (v3 : Int32) (v4 : Int32) (v5 : Int32) (I1 : Ix) (L1 : Lx), FrI (wsI_X12_used) (fsI_X12_used) I0 I1 → FrL (wsL_X12_used) (fsL_X12_used) L0 L1 → P78 v1 v2 v3 v4 v5 I1 L1 → P78' v1 v2 v3 v4 v5 I1 L1) {v1 : Int32} {v2 : Int32} {v3 : Int32} {v4 : Int32} {v5 : Int32} {v6 : Int32} {I : Ix} {L : Lx} (hF : FrI (wsI_X12_used) (fsI_X12_used) I0 I) (hL : FrL (wsL_X12_used) (fsL_X12_used) L0 L) (h : wpX12_used_h87 Q P78 v1 v2 v3 v4 v5 v6 I L) : wpX12_used_h87 Q' P78' v1 v2 v3 v4 v5 v6 I L := by
  unfold wpX12_used_h87 at h
  refine Lfp.ind (P := fun z => FrI (wsI_X12_used) (fsI_X12_used) I0 z.2.2.2.2.2.2.1 → FrL (wsL_X12_used) (fsL_X12_used) L0 z.2.2.2.2.2.2.2 → wpX12_used_h87 Q' P78' z.1 z.2.1 z.2.2.1 z.2.2.2.1 z.2.2.2.2.1 z.2.2.2.2.2.1 z.2.2.2.2.2.2.1 z.2.2.2.2.2.2.2) ?_ h hF hL
  intro z P' hP' h hF hL
  obtain ⟨v1, v2, v3, v4, v5, v6, I, L⟩ := z
  exact wpX12_used_h87_fold (mnX12_used_l87 hQ hP78 (fun v1 v2 v3 v4 v5 v6 I L hF hL h9 => hP' (v1, v2, v3, v4, v5, v6, I, L) h9 hF hL) hF hL h)
set_option maxRecDepth 10000 in
theorem mnX12_used_l78 {I0 : Ix} {L0 : Lx} {Q Q' : Int32 → Ix → Lx → Prop} {P78 P78' : Int32 → Int32 → Int32 → Int32 → Int32 → Ix → Lx → Prop} (hQ : ∀ (r : Int32) (I1 : Ix) (L1 : Lx), FrI (wsI_X12_used) (fsI_X12_used) I0 I1 → FrL (wsL_X12_used) (fsL_X12_used) L0 L1 → Q r I1 L1 → Q' r I1 L1) (hP78 : ∀ (v1 : Int32) (v2 : Int32) (v3 : Int32) (v4 : Int32) (v5 : Int32) (I1 : Ix) (L1 : Lx), FrI (wsI_X12_used) (fsI_X12_used) I0 I1 → FrL (wsL_X12_used) (fsL_X12_used) L0 L1 → P78 v1 v2 v3 v4 v5 I1 L1 → P78' v1 v2 v3 v4 v5 I1 L1) {v1 : Int32} {v2 : Int32} {v3 : Int32} {v4 : Int32} {v5 : Int32} {I : Ix} {L : Lx} (hF : FrI (wsI_X12_used) (fsI_X12_used) I0 I) (hL : FrL (wsL_X12_used) (fsL_X12_used) L0 L) (h : wpX12_used_l78 Q P78 v1 v2 v3 v4 v5 I L) : wpX12_used_l78 Q' P78' v1 v2 v3 v4 v5 I L := by
  unfold wpX12_used_l78 at h ⊢
  refine ⟨fun hc => ?_, fun hc => ?_⟩
  · have h := h.1 hc
    refine ⟨h.1, ?_⟩
    have h := h.2
    refine mnX12_bestUse (fun r3 I1 L2 hf hl h => ?_) h
    have hF := hF.tr hf (by decide) (by decide)
    have hL := hL.tr hl (by decide) (by decide)
    refine ⟨fun hc => ?_, fun hc => ?_⟩
    · have h := h.1 hc
      exact hQ _ _ _ hF hL h
    · have h := h.2 hc
      exact hQ _ _ _ hF hL h
  · have h := h.2 hc
    exact mnX12_used_h87 hQ hP78 hF hL h
set_option maxRecDepth 10000 in
theorem mnX12_used_h78 {I0 : Ix} {L0 : Lx} {Q Q' : Int32 → Ix → Lx → Prop} (hQ : ∀ (r : Int32) (I1 : Ix) (L1 : Lx), FrI (wsI_X12_used) (fsI_X12_used) I0 I1 → FrL (wsL_X12_used) (fsL_X12_used) L0 L1 → Q r I1 L1 → Q' r I1 L1) {v1 : Int32} {v2 : Int32} {v3 : Int32} {v4 : Int32} {v5 : Int32} {I : Ix} {L : Lx} (hF : FrI (wsI_X12_used) (fsI_X12_used) I0 I) (hL : FrL (wsL_X12_used) (fsL_X12_used) L0 L) (h : wpX12_used_h78 Q v1 v2 v3 v4 v5 I L) : wpX12_used_h78 Q' v1 v2 v3 v4 v5 I L := by
  unfold wpX12_used_h78 at h
  refine Lfp.ind (P := fun z => FrI (wsI_X12_used) (fsI_X12_used) I0 z.2.2.2.2.2.1 → FrL (wsL_X12_used) (fsL_X12_used) L0 z.2.2.2.2.2.2 → wpX12_used_h78 Q' z.1 z.2.1 z.2.2.1 z.2.2.2.1 z.2.2.2.2.1 z.2.2.2.2.2.1 z.2.2.2.2.2.2) ?_ h hF hL
  intro z P' hP' h hF hL
  obtain ⟨v1, v2, v3, v4, v5, I, L⟩ := z
  exact wpX12_used_h78_fold (mnX12_used_l78 hQ (fun v1 v2 v3 v4 v5 I L hF hL h9 => hP' (v1, v2, v3, v4, v5, I, L) h9 hF hL) hF hL h)
set_option maxRecDepth 10000 in
theorem mnX12_used_l54 {I0 : Ix} {L0 : Lx} {Q Q' : Int32 → Ix → Lx → Prop} {P54 P54' : Int32 → Int32 → Int32 → Int32 → Int32 → Ix → Lx → Prop} (hQ : ∀ (r : Int32) (I1 : Ix) (L1 : Lx), FrI (wsI_X12_used) (fsI_X12_used) I0 I1 → FrL (wsL_X12_used) (fsL_X12_used) L0 L1 → Q r I1 L1 → Q' r I1 L1) (hP54 : ∀ (v1 : Int32) (v2 : Int32) (v3 : Int32) (v4 : Int32) (v5 : Int32) (I1 : Ix) (L1 : Lx), FrI (wsI_X12_used) (fsI_X12_used) I0 I1 → FrL (wsL_X12_used) (fsL_X12_used) L0 L1 → P54 v1 v2 v3 v4 v5 I1 L1 → P54' v1 v2 v3 v4 v5 I1 L1) {v1 : Int32} {v2 : Int32} {v3 : Int32} {v4 : Int32} {v5 : Int32} {I : Ix} {L : Lx} (hF : FrI (wsI_X12_used) (fsI_X12_used) I0 I) (hL : FrL (wsL_X12_used) (fsL_X12_used) L0 L) (h : wpX12_used_l54 Q P54 v1 v2 v3 v4 v5 I L) : wpX12_used_l54 Q' P54' v1 v2 v3 v4 v5 I L := by
  unfold wpX12_used_l54 at h ⊢
  refine ⟨fun hc => ?_, fun hc => ?_⟩
  · have h := h.1 hc
    exact mnX12_used_h78 hQ hF hL h
  · have h := h.2 hc
    refine ⟨h.1, ?_⟩
    have h := h.2
    intro L1 eL1
    have h := h L1 eL1
    have hL := hL.pw eL1 (by decide)
    exact hP54 _ _ _ _ _ _ _ hF hL h
set_option maxRecDepth 10000 in
theorem mnX12_used_h54 {I0 : Ix} {L0 : Lx} {Q Q' : Int32 → Ix → Lx → Prop} (hQ : ∀ (r : Int32) (I1 : Ix) (L1 : Lx), FrI (wsI_X12_used) (fsI_X12_used) I0 I1 → FrL (wsL_X12_used) (fsL_X12_used) L0 L1 → Q r I1 L1 → Q' r I1 L1) {v1 : Int32} {v2 : Int32} {v3 : Int32} {v4 : Int32} {v5 : Int32} {I : Ix} {L : Lx} (hF : FrI (wsI_X12_used) (fsI_X12_used) I0 I) (hL : FrL (wsL_X12_used) (fsL_X12_used) L0 L) (h : wpX12_used_h54 Q v1 v2 v3 v4 v5 I L) : wpX12_used_h54 Q' v1 v2 v3 v4 v5 I L := by
  unfold wpX12_used_h54 at h
  refine Lfp.ind (P := fun z => FrI (wsI_X12_used) (fsI_X12_used) I0 z.2.2.2.2.2.1 → FrL (wsL_X12_used) (fsL_X12_used) L0 z.2.2.2.2.2.2 → wpX12_used_h54 Q' z.1 z.2.1 z.2.2.1 z.2.2.2.1 z.2.2.2.2.1 z.2.2.2.2.2.1 z.2.2.2.2.2.2) ?_ h hF hL
  intro z P' hP' h hF hL
  obtain ⟨v1, v2, v3, v4, v5, I, L⟩ := z
  exact wpX12_used_h54_fold (mnX12_used_l54 hQ (fun v1 v2 v3 v4 v5 I L hF hL h9 => hP' (v1, v2, v3, v4, v5, I, L) h9 hF hL) hF hL h)
set_option maxRecDepth 10000 in
theorem mnX12_used {a1 : Int32} {a2 : Int32} {a3 : Int32} {a4 : Int32} {I : Ix} {L : Lx} {Q Q' : Int32 → Ix → Lx → Prop} (hQ : ∀ (r : Int32) (I1 : Ix) (L1 : Lx), FrI (wsI_X12_used) (fsI_X12_used) I I1 → FrL (wsL_X12_used) (fsL_X12_used) L L1 → Q r I1 L1 → Q' r I1 L1) (h : wpX12_used a1 a2 a3 a4 I L Q) : wpX12_used a1 a2 a3 a4 I L Q' := by
  have hF : FrI (wsI_X12_used) (fsI_X12_used) I I := FrI.rf
  have hL : FrL (wsL_X12_used) (fsL_X12_used) L L := FrL.rf
  unfold wpX12_used at h ⊢
  refine mnX12_isThing (fun r3 I1 L2 hf hl h => ?_) h
  have hF := hF.tr hf (by decide) (by decide)
  have hL := hL.tr hl (by decide) (by decide)
  refine ⟨fun hc => ?_, fun hc => ?_⟩
  · have h := h.1 hc
    exact hQ _ _ _ hF hL h
  · have h := h.2 hc
    refine ⟨h.1, ?_⟩
    have h := h.2
    refine ⟨fun hc => ?_, fun hc => ?_⟩
    · have h := h.1 hc
      exact hQ _ _ _ hF hL h
    · have h := h.2 hc
      refine ⟨fun hc => ?_, fun hc => ?_⟩
      · have h := h.1 hc
        exact hQ _ _ _ hF hL h
      · have h := h.2 hc
        refine ⟨fun hc => ?_, fun hc => ?_⟩
        · have h := h.1 hc
          exact hQ _ _ _ hF hL h
        · have h := h.2 hc
          refine ⟨fun hc => ?_, fun hc => ?_⟩
          · have h := h.1 hc
            exact hQ _ _ _ hF hL h
          · have h := h.2 hc
            refine ⟨fun hc => ?_, fun hc => ?_⟩
            · have h := h.1 hc
              exact hQ _ _ _ hF hL h
            · have h := h.2 hc
              refine ⟨fun hc => ?_, fun hc => ?_⟩
              · have h := h.1 hc
                exact hQ _ _ _ hF hL h
              · have h := h.2 hc
                refine ⟨fun hc => ?_, fun hc => ?_⟩
                · have h := h.1 hc
                  exact mnX12_used_h54 hQ hF hL h
                · have h := h.2 hc
                  exact hQ _ _ _ hF hL h
abbrev wsI_X12_lift : List Nat := []
abbrev wsL_X12_lift : List Nat := []
abbrev fsI_X12_lift : List (Nat × Nat) := []
abbrev fsL_X12_lift : List (Nat × Nat) := []
set_option maxRecDepth 10000 in
theorem mnX12_lift_l28 {I0 : Ix} {L0 : Lx} {Q Q' : Int32 → Ix → Lx → Prop} {P28 P28' : Int32 → Int32 → Int32 → Int32 → Ix → Lx → Prop} (hQ : ∀ (r : Int32) (I1 : Ix) (L1 : Lx), FrI (wsI_X12_lift) (fsI_X12_lift) I0 I1 → FrL (wsL_X12_lift) (fsL_X12_lift) L0 L1 → Q r I1 L1 → Q' r I1 L1) (hP28 : ∀ (v1 : Int32) (v2 : Int32) (v3 : Int32) (v4 : Int32) (I1 : Ix) (L1 : Lx), FrI (wsI_X12_lift) (fsI_X12_lift) I0 I1 → FrL (wsL_X12_lift) (fsL_X12_lift) L0 L1 → P28 v1 v2 v3 v4 I1 L1 → P28' v1 v2 v3 v4 I1 L1) {v1 : Int32} {v2 : Int32} {v3 : Int32} {v4 : Int32} {I : Ix} {L : Lx} (hF : FrI (wsI_X12_lift) (fsI_X12_lift) I0 I) (hL : FrL (wsL_X12_lift) (fsL_X12_lift) L0 L) (h : wpX12_lift_l28 Q P28 v1 v2 v3 v4 I L) : wpX12_lift_l28 Q' P28' v1 v2 v3 v4 I L := by
  unfold wpX12_lift_l28 at h ⊢
  refine ⟨fun hc => ?_, fun hc => ?_⟩
  · have h := h.1 hc
    exact hQ _ _ _ hF hL h
  · have h := h.2 hc
    refine mnX12_heavyOf (fun r3 I1 L2 hf hl h => ?_) h
    have hF := hF.tr hf (by decide) (by decide)
    have hL := hL.tr hl (by decide) (by decide)
    refine mnX12_forceOf (fun r6 I4 L5 hf hl h => ?_) h
    have hF := hF.tr hf (by decide) (by decide)
    have hL := hL.tr hl (by decide) (by decide)
    refine ⟨fun hc => ?_, fun hc => ?_⟩
    · have h := h.1 hc
      exact hP28 _ _ _ _ _ _ hF hL h
    · have h := h.2 hc
      refine mnX12_heavyOf (fun r9 I7 L8 hf hl h => ?_) h
      have hF := hF.tr hf (by decide) (by decide)
      have hL := hL.tr hl (by decide) (by decide)
      refine mnX12_forceOf (fun r12 I10 L11 hf hl h => ?_) h
      have hF := hF.tr hf (by decide) (by decide)
      have hL := hL.tr hl (by decide) (by decide)
      refine ⟨fun hc => ?_, fun hc => ?_⟩
      · have h := h.1 hc
        exact hP28 _ _ _ _ _ _ hF hL h
      · have h := h.2 hc
        refine mnX12_heavyOf (fun r15 I13 L14 hf hl h => ?_) h
        have hF := hF.tr hf (by decide) (by decide)
        have hL := hL.tr hl (by decide) (by decide)
        refine mnX12_forceOf (fun r18 I16 L17 hf hl h => ?_) h
        have hF := hF.tr hf (by decide) (by decide)
        have hL := hL.tr hl (by decide) (by decide)
        refine mnX12_forceOf (fun r21 I19 L20 hf hl h => ?_) h
        have hF := hF.tr hf (by decide) (by decide)
        have hL := hL.tr hl (by decide) (by decide)
        refine ⟨fun hc => ?_, fun hc => ?_⟩
        · have h := h.1 hc
          exact hP28 _ _ _ _ _ _ hF hL h
        · have h := h.2 hc
          exact hP28 _ _ _ _ _ _ hF hL h
set_option maxRecDepth 10000 in
theorem mnX12_lift_h28 {I0 : Ix} {L0 : Lx} {Q Q' : Int32 → Ix → Lx → Prop} (hQ : ∀ (r : Int32) (I1 : Ix) (L1 : Lx), FrI (wsI_X12_lift) (fsI_X12_lift) I0 I1 → FrL (wsL_X12_lift) (fsL_X12_lift) L0 L1 → Q r I1 L1 → Q' r I1 L1) {v1 : Int32} {v2 : Int32} {v3 : Int32} {v4 : Int32} {I : Ix} {L : Lx} (hF : FrI (wsI_X12_lift) (fsI_X12_lift) I0 I) (hL : FrL (wsL_X12_lift) (fsL_X12_lift) L0 L) (h : wpX12_lift_h28 Q v1 v2 v3 v4 I L) : wpX12_lift_h28 Q' v1 v2 v3 v4 I L := by
  unfold wpX12_lift_h28 at h
  refine Lfp.ind (P := fun z => FrI (wsI_X12_lift) (fsI_X12_lift) I0 z.2.2.2.2.1 → FrL (wsL_X12_lift) (fsL_X12_lift) L0 z.2.2.2.2.2 → wpX12_lift_h28 Q' z.1 z.2.1 z.2.2.1 z.2.2.2.1 z.2.2.2.2.1 z.2.2.2.2.2) ?_ h hF hL
  intro z P' hP' h hF hL
  obtain ⟨v1, v2, v3, v4, I, L⟩ := z
  exact wpX12_lift_h28_fold (mnX12_lift_l28 hQ (fun v1 v2 v3 v4 I L hF hL h9 => hP' (v1, v2, v3, v4, I, L) h9 hF hL) hF hL h)
set_option maxRecDepth 10000 in
theorem mnX12_lift {a1 : Int32} {a2 : Int32} {I : Ix} {L : Lx} {Q Q' : Int32 → Ix → Lx → Prop} (hQ : ∀ (r : Int32) (I1 : Ix) (L1 : Lx), FrI (wsI_X12_lift) (fsI_X12_lift) I I1 → FrL (wsL_X12_lift) (fsL_X12_lift) L L1 → Q r I1 L1 → Q' r I1 L1) (h : wpX12_lift a1 a2 I L Q) : wpX12_lift a1 a2 I L Q' := by
  have hF : FrI (wsI_X12_lift) (fsI_X12_lift) I I := FrI.rf
  have hL : FrL (wsL_X12_lift) (fsL_X12_lift) L L := FrL.rf
  unfold wpX12_lift at h ⊢
  refine mnX12_isPerson (fun r3 I1 L2 hf hl h => ?_) h
  have hF := hF.tr hf (by decide) (by decide)
  have hL := hL.tr hl (by decide) (by decide)
  refine ⟨fun hc => ?_, fun hc => ?_⟩
  · have h := h.1 hc
    exact hQ _ _ _ hF hL h
  · have h := h.2 hc
    refine mnX12_isPerson (fun r6 I4 L5 hf hl h => ?_) h
    have hF := hF.tr hf (by decide) (by decide)
    have hL := hL.tr hl (by decide) (by decide)
    refine ⟨fun hc => ?_, fun hc => ?_⟩
    · have h := h.1 hc
      exact hQ _ _ _ hF hL h
    · have h := h.2 hc
      refine ⟨fun hc => ?_, fun hc => ?_⟩
      · have h := h.1 hc
        exact mnX12_lift_h28 hQ hF hL h
      · have h := h.2 hc
        exact hQ _ _ _ hF hL h
abbrev wsI_X12_hasThing : List Nat := []
abbrev wsL_X12_hasThing : List Nat := []
abbrev fsI_X12_hasThing : List (Nat × Nat) := []
abbrev fsL_X12_hasThing : List (Nat × Nat) := []
set_option maxRecDepth 10000 in
theorem mnX12_hasThing_b34 {I0 : Ix} {L0 : Lx} {Q Q' : Bool → Ix → Lx → Prop} {P4 P4' : Int32 → Int32 → Int32 → Ix → Lx → Prop} (hQ : ∀ (r : Bool) (I1 : Ix) (L1 : Lx), FrI (wsI_X12_hasThing) (fsI_X12_hasThing) I0 I1 → FrL (wsL_X12_hasThing) (fsL_X12_hasThing) L0 L1 → Q r I1 L1 → Q' r I1 L1) (hP4 : ∀ (v1 : Int32) (v2 : Int32) (v3 : Int32) (I1 : Ix) (L1 : Lx), FrI (wsI_X12_hasThing) (fsI_X12_hasThing) I0 I1 → FrL (wsL_X12_hasThing) (fsL_X12_hasThing) L0 L1 → P4 v1 v2 v3 I1 L1 → P4' v1 v2 v3 I1 L1) {v1 : Int32} {v3 : Int32} {I : Ix} {L : Lx} (hF : FrI (wsI_X12_hasThing) (fsI_X12_hasThing) I0 I) (hL : FrL (wsL_X12_hasThing) (fsL_X12_hasThing) L0 L) (h : wpX12_hasThing_b34 Q P4 v1 v3 I L) : wpX12_hasThing_b34 Q' P4' v1 v3 I L := by
  unfold wpX12_hasThing_b34 at h ⊢
  exact hP4 _ _ _ _ _ hF hL h
set_option maxRecDepth 10000 in
theorem mnX12_hasThing_l4 {I0 : Ix} {L0 : Lx} {Q Q' : Bool → Ix → Lx → Prop} {P4 P4' : Int32 → Int32 → Int32 → Ix → Lx → Prop} (hQ : ∀ (r : Bool) (I1 : Ix) (L1 : Lx), FrI (wsI_X12_hasThing) (fsI_X12_hasThing) I0 I1 → FrL (wsL_X12_hasThing) (fsL_X12_hasThing) L0 L1 → Q r I1 L1 → Q' r I1 L1) (hP4 : ∀ (v1 : Int32) (v2 : Int32) (v3 : Int32) (I1 : Ix) (L1 : Lx), FrI (wsI_X12_hasThing) (fsI_X12_hasThing) I0 I1 → FrL (wsL_X12_hasThing) (fsL_X12_hasThing) L0 L1 → P4 v1 v2 v3 I1 L1 → P4' v1 v2 v3 I1 L1) {v1 : Int32} {v2 : Int32} {v3 : Int32} {I : Ix} {L : Lx} (hF : FrI (wsI_X12_hasThing) (fsI_X12_hasThing) I0 I) (hL : FrL (wsL_X12_hasThing) (fsL_X12_hasThing) L0 L) (h : wpX12_hasThing_l4 Q P4 v1 v2 v3 I L) : wpX12_hasThing_l4 Q' P4' v1 v2 v3 I L := by
  unfold wpX12_hasThing_l4 at h ⊢
  refine ⟨fun hc => ?_, fun hc => ?_⟩
  · have h := h.1 hc
    obtain ⟨b, e, h⟩ := h
    exact ⟨b, e, hQ _ _ _ hF hL h⟩
  · have h := h.2 hc
    refine ⟨fun hc => ?_, fun hc => ?_⟩
    · have h := h.1 hc
      exact mnX12_hasThing_b34 hQ hP4 hF hL h
    · have h := h.2 hc
      refine mnX12_placeOf (fun r3 I1 L2 hf hl h => ?_) h
      have hF := hF.tr hf (by decide) (by decide)
      have hL := hL.tr hl (by decide) (by decide)
      refine ⟨fun hc => ?_, fun hc => ?_⟩
      · have h := h.1 hc
        exact hP4 _ _ _ _ _ hF hL h
      · have h := h.2 hc
        refine ⟨h.1, ?_⟩
        have h := h.2
        refine ⟨fun hc => ?_, fun hc => ?_⟩
        · have h := h.1 hc
          exact hP4 _ _ _ _ _ hF hL h
        · have h := h.2 hc
          exact mnX12_hasThing_b34 hQ hP4 hF hL h
set_option maxRecDepth 10000 in
theorem mnX12_hasThing_h4 {I0 : Ix} {L0 : Lx} {Q Q' : Bool → Ix → Lx → Prop} (hQ : ∀ (r : Bool) (I1 : Ix) (L1 : Lx), FrI (wsI_X12_hasThing) (fsI_X12_hasThing) I0 I1 → FrL (wsL_X12_hasThing) (fsL_X12_hasThing) L0 L1 → Q r I1 L1 → Q' r I1 L1) {v1 : Int32} {v2 : Int32} {v3 : Int32} {I : Ix} {L : Lx} (hF : FrI (wsI_X12_hasThing) (fsI_X12_hasThing) I0 I) (hL : FrL (wsL_X12_hasThing) (fsL_X12_hasThing) L0 L) (h : wpX12_hasThing_h4 Q v1 v2 v3 I L) : wpX12_hasThing_h4 Q' v1 v2 v3 I L := by
  unfold wpX12_hasThing_h4 at h
  refine Lfp.ind (P := fun z => FrI (wsI_X12_hasThing) (fsI_X12_hasThing) I0 z.2.2.2.1 → FrL (wsL_X12_hasThing) (fsL_X12_hasThing) L0 z.2.2.2.2 → wpX12_hasThing_h4 Q' z.1 z.2.1 z.2.2.1 z.2.2.2.1 z.2.2.2.2) ?_ h hF hL
  intro z P' hP' h hF hL
  obtain ⟨v1, v2, v3, I, L⟩ := z
  exact wpX12_hasThing_h4_fold (mnX12_hasThing_l4 hQ (fun v1 v2 v3 I L hF hL h9 => hP' (v1, v2, v3, I, L) h9 hF hL) hF hL h)
set_option maxRecDepth 10000 in
theorem mnX12_hasThing {a1 : Int32} {I : Ix} {L : Lx} {Q Q' : Bool → Ix → Lx → Prop} (hQ : ∀ (r : Bool) (I1 : Ix) (L1 : Lx), FrI (wsI_X12_hasThing) (fsI_X12_hasThing) I I1 → FrL (wsL_X12_hasThing) (fsL_X12_hasThing) L L1 → Q r I1 L1 → Q' r I1 L1) (h : wpX12_hasThing a1 I L Q) : wpX12_hasThing a1 I L Q' := by
  have hF : FrI (wsI_X12_hasThing) (fsI_X12_hasThing) I I := FrI.rf
  have hL : FrL (wsL_X12_hasThing) (fsL_X12_hasThing) L L := FrL.rf
  unfold wpX12_hasThing at h ⊢
  exact mnX12_hasThing_h4 hQ hF hL h
abbrev wsI_X12_tour : List Nat := [163]
abbrev wsL_X12_tour : List Nat := []
abbrev fsI_X12_tour : List (Nat × Nat) := []
abbrev fsL_X12_tour : List (Nat × Nat) := []
set_option maxRecDepth 10000 in
theorem mnX12_tour_b189 {I0 : Ix} {L0 : Lx} {Q Q' : Int32 → Ix → Lx → Prop} {P14 P14' : Int32 → Int32 → Int32 → Ix → Lx → Prop} {P23 P23' : Int32 → Int32 → Int32 → Int32 → Ix → Lx → Prop} (hQ : ∀ (r : Int32) (I1 : Ix) (L1 : Lx), FrI (wsI_X12_tour) (fsI_X12_tour) I0 I1 → FrL (wsL_X12_tour) (fsL_X12_tour) L0 L1 → Q r I1 L1 → Q' r I1 L1) (hP14 : ∀ (v1 : Int32) (v2 : Int32) (v3 : Int32) (I1 : Ix) (L1 : Lx), FrI (wsI_X12_tour) (fsI_X12_tour) I0 I1 → FrL (wsL_X12_tour) (fsL_X12_tour) L0 L1 → P14 v1 v2 v3 I1 L1 → P14' v1 v2 v3 I1 L1) (hP23 : ∀ (v1 : Int32) (v2 : Int32) (v3 : Int32) (v4 : Int32) (I1 : Ix) (L1 : Lx), FrI (wsI_X12_tour) (fsI_X12_tour) I0 I1 → FrL (wsL_X12_tour) (fsL_X12_tour) L0 L1 → P23 v1 v2 v3 v4 I1 L1 → P23' v1 v2 v3 v4 I1 L1) {v1 : Int32} {v2 : Int32} {v3 : Int32} {v4 : Int32} {I : Ix} {L : Lx} (hF : FrI (wsI_X12_tour) (fsI_X12_tour) I0 I) (hL : FrL (wsL_X12_tour) (fsL_X12_tour) L0 L) (h : wpX12_tour_b189 Q P14 P23 v1 v2 v3 v4 I L) : wpX12_tour_b189 Q' P14' P23' v1 v2 v3 v4 I L := by
  unfold wpX12_tour_b189 at h ⊢
  refine ⟨h.1, ?_⟩
  have h := h.2
  refine ⟨fun hc => ?_, fun hc => ?_⟩
  · have h := h.1 hc
    exact hP23 _ _ _ _ _ _ hF hL h
  · have h := h.2 hc
    refine ⟨h.1, ?_⟩
    have h := h.2
    exact hP23 _ _ _ _ _ _ hF hL h
set_option maxRecDepth 10000 in
theorem mnX12_tour_l89 {I0 : Ix} {L0 : Lx} {Q Q' : Int32 → Ix → Lx → Prop} {P14 P14' : Int32 → Int32 → Int32 → Ix → Lx → Prop} {P23 P23' : Int32 → Int32 → Int32 → Int32 → Ix → Lx → Prop} {P89 P89' : Int32 → Int32 → Int32 → Int32 → Int32 → Ix → Lx → Prop} (hQ : ∀ (r : Int32) (I1 : Ix) (L1 : Lx), FrI (wsI_X12_tour) (fsI_X12_tour) I0 I1 → FrL (wsL_X12_tour) (fsL_X12_tour) L0 L1 → Q r I1 L1 → Q' r I1 L1) (hP14 : ∀ (v1 : Int32) (v2 : Int32) (v3 : Int32) (I1 : Ix) (L1 : Lx), FrI (wsI_X12_tour) (fsI_X12_tour) I0 I1 → FrL (wsL_X12_tour) (fsL_X12_tour) L0 L1 → P14 v1 v2 v3 I1 L1 → P14' v1 v2 v3 I1 L1) (hP23 : ∀ (v1 : Int32) (v2 : Int32) (v3 : Int32) (v4 : Int32) (I1 : Ix) (L1 : Lx), FrI (wsI_X12_tour) (fsI_X12_tour) I0 I1 → FrL (wsL_X12_tour) (fsL_X12_tour) L0 L1 → P23 v1 v2 v3 v4 I1 L1 → P23' v1 v2 v3 v4 I1 L1) (hP89 : ∀ (v1 : Int32) (v2 : Int32) (v3 : Int32) (v4 : Int32) (v5 : Int32) (I1 : Ix) (L1 : Lx), FrI (wsI_X12_tour) (fsI_X12_tour) I0 I1 → FrL (wsL_X12_tour) (fsL_X12_tour) L0 L1 → P89 v1 v2 v3 v4 v5 I1 L1 → P89' v1 v2 v3 v4 v5 I1 L1) {v1 : Int32} {v2 : Int32} {v3 : Int32} {v4 : Int32} {v5 : Int32} {I : Ix} {L : Lx} (hF : FrI (wsI_X12_tour) (fsI_X12_tour) I0 I) (hL : FrL (wsL_X12_tour) (fsL_X12_tour) L0 L) (h : wpX12_tour_l89 Q P14 P23 P89 v1 v2 v3 v4 v5 I L) : wpX12_tour_l89 Q' P14' P23' P89' v1 v2 v3 v4 v5 I L := by
  unfold wpX12_tour_l89 at h ⊢
  refine ⟨fun hc => ?_, fun hc => ?_⟩
  · have h := h.1 hc
    exact mnX12_tour_b189 hQ hP14 hP23 hF hL h
  · have h := h.2 hc
    refine mnX12_hasThing (fun r3 I1 L2 hf hl h => ?_) h
    have hF := hF.tr hf (by decide) (by decide)
    have hL := hL.tr hl (by decide) (by decide)
    refine ⟨fun hc => ?_, fun hc => ?_⟩
    · have h := h.1 hc
      exact mnX12_tour_b189 hQ hP14 hP23 hF hL h
    · have h := h.2 hc
      refine ⟨h.1, ?_⟩
      have h := h.2
      refine ⟨fun hc => ?_, fun hc => ?_⟩
      · have h := h.1 hc
        exact hP89 _ _ _ _ _ _ _ hF hL h
      · have h := h.2 hc
        refine ⟨h.1, ?_⟩
        have h := h.2
        refine ⟨fun hc => ?_, fun hc => ?_⟩
        · have h := h.1 hc
          exact hP89 _ _ _ _ _ _ _ hF hL h
        · have h := h.2 hc
          refine mnX12_farOf (fun r6 I4 L5 hf hl h => ?_) h
          have hF := hF.tr hf (by decide) (by decide)
          have hL := hL.tr hl (by decide) (by decide)
          refine ⟨h.1, ?_⟩
          have h := h.2
          refine ⟨fun hc => ?_, fun hc => ?_⟩
          · have h := h.1 hc
            exact hP89 _ _ _ _ _ _ _ hF hL h
          · have h := h.2 hc
            refine ⟨h.1, ?_⟩
            have h := h.2
            refine ⟨h.1, ?_⟩
            have h := h.2
            refine ⟨fun hc => ?_, fun hc => ?_⟩
            · have h := h.1 hc
              exact hP89 _ _ _ _ _ _ _ hF hL h
            · have h := h.2 hc
              refine ⟨h.1, ?_⟩
              have h := h.2
              refine ⟨h.1, ?_⟩
              have h := h.2
              intro I7 eI7
              have h := h I7 eI7
              have hF := hF.pw eI7 (by decide)
              exact hP89 _ _ _ _ _ _ _ hF hL h
set_option maxRecDepth 10000 in
theorem mnX12_tour_h89 {I0 : Ix} {L0 : Lx} {Q Q' : Int32 → Ix → Lx → Prop} {P14 P14' : Int32 → Int32 → Int32 → Ix → Lx → Prop} {P23 P23' : Int32 → Int32 → Int32 → Int32 → Ix → Lx → Prop} (hQ : ∀ (r : Int32) (I1 : Ix) (L1 : Lx), FrI (wsI_X12_tour) (fsI_X12_tour) I0 I1 → FrL (wsL_X12_tour) (fsL_X12_tour) L0 L1 → Q r I1 L1 → Q' r I1 L1) (hP14 : ∀ (v1 : Int32) (v2 : Int32) (v3 : Int32) (I1 : Ix) (L1 : Lx), FrI (wsI_X12_tour) (fsI_X12_tour) I0 I1 → FrL (wsL_X12_tour) (fsL_X12_tour) L0 L1 → P14 v1 v2 v3 I1 L1 → P14' v1 v2 v3 I1 L1) (hP23 : ∀ (v1 : Int32) (v2 : Int32) (v3 : Int32) (v4 : Int32) (I1 : Ix) (L1 : Lx), FrI (wsI_X12_tour) (fsI_X12_tour) I0 I1 → FrL (wsL_X12_tour) (fsL_X12_tour) L0 L1 → P23 v1 v2 v3 v4 I1 L1 → P23' v1 v2 v3 v4 I1 L1) {v1 : Int32} {v2 : Int32} {v3 : Int32} {v4 : Int32} {v5 : Int32} {I : Ix} {L : Lx} (hF : FrI (wsI_X12_tour) (fsI_X12_tour) I0 I) (hL : FrL (wsL_X12_tour) (fsL_X12_tour) L0 L) (h : wpX12_tour_h89 Q P14 P23 v1 v2 v3 v4 v5 I L) : wpX12_tour_h89 Q' P14' P23' v1 v2 v3 v4 v5 I L := by
  unfold wpX12_tour_h89 at h
  refine Lfp.ind (P := fun z => FrI (wsI_X12_tour) (fsI_X12_tour) I0 z.2.2.2.2.2.1 → FrL (wsL_X12_tour) (fsL_X12_tour) L0 z.2.2.2.2.2.2 → wpX12_tour_h89 Q' P14' P23' z.1 z.2.1 z.2.2.1 z.2.2.2.1 z.2.2.2.2.1 z.2.2.2.2.2.1 z.2.2.2.2.2.2) ?_ h hF hL
  intro z P' hP' h hF hL
  obtain ⟨v1, v2, v3, v4, v5, I, L⟩ := z
  exact wpX12_tour_h89_fold (mnX12_tour_l89 hQ hP14 hP23 (fun v1 v2 v3 v4 v5 I L hF hL h9 => hP' (v1, v2, v3, v4, v5, I, L) h9 hF hL) hF hL h)
set_option maxRecDepth 10000 in
theorem mnX12_tour_b85 {I0 : Ix} {L0 : Lx} {Q Q' : Int32 → Ix → Lx → Prop} {P14 P14' : Int32 → Int32 → Int32 → Ix → Lx → Prop} {P23 P23' : Int32 → Int32 → Int32 → Int32 → Ix → Lx → Prop} (hQ : ∀ (r : Int32) (I1 : Ix) (L1 : Lx), FrI (wsI_X12_tour) (fsI_X12_tour) I0 I1 → FrL (wsL_X12_tour) (fsL_X12_tour) L0 L1 → Q r I1 L1 → Q' r I1 L1) (hP14 : ∀ (v1 : Int32) (v2 : Int32) (v3 : Int32) (I1 : Ix) (L1 : Lx), FrI (wsI_X12_tour) (fsI_X12_tour) I0 I1 → FrL (wsL_X12_tour) (fsL_X12_tour) L0 L1 → P14 v1 v2 v3 I1 L1 → P14' v1 v2 v3 I1 L1) (hP23 : ∀ (v1 : Int32) (v2 : Int32) (v3 : Int32) (v4 : Int32) (I1 : Ix) (L1 : Lx), FrI (wsI_X12_tour) (fsI_X12_tour) I0 I1 → FrL (wsL_X12_tour) (fsL_X12_tour) L0 L1 → P23 v1 v2 v3 v4 I1 L1 → P23' v1 v2 v3 v4 I1 L1) {v1 : Int32} {v2 : Int32} {v3 : Int32} {v4 : Int32} {t1 : Int32} {t2 : Int32} {I : Ix} {L : Lx} (hF : FrI (wsI_X12_tour) (fsI_X12_tour) I0 I) (hL : FrL (wsL_X12_tour) (fsL_X12_tour) L0 L) (h : wpX12_tour_b85 Q P14 P23 v1 v2 v3 v4 t1 t2 I L) : wpX12_tour_b85 Q' P14' P23' v1 v2 v3 v4 t1 t2 I L := by
  unfold wpX12_tour_b85 at h ⊢
  refine ⟨h.1, ?_⟩
  have h := h.2
  intro I1 eI1
  have h := h I1 eI1
  have hF := hF.pw eI1 (by decide)
  exact mnX12_tour_h89 hQ hP14 hP23 hF hL h
set_option maxRecDepth 10000 in
theorem mnX12_tour_b84 {I0 : Ix} {L0 : Lx} {Q Q' : Int32 → Ix → Lx → Prop} {P14 P14' : Int32 → Int32 → Int32 → Ix → Lx → Prop} {P23 P23' : Int32 → Int32 → Int32 → Int32 → Ix → Lx → Prop} (hQ : ∀ (r : Int32) (I1 : Ix) (L1 : Lx), FrI (wsI_X12_tour) (fsI_X12_tour) I0 I1 → FrL (wsL_X12_tour) (fsL_X12_tour) L0 L1 → Q r I1 L1 → Q' r I1 L1) (hP14 : ∀ (v1 : Int32) (v2 : Int32) (v3 : Int32) (I1 : Ix) (L1 : Lx), FrI (wsI_X12_tour) (fsI_X12_tour) I0 I1 → FrL (wsL_X12_tour) (fsL_X12_tour) L0 L1 → P14 v1 v2 v3 I1 L1 → P14' v1 v2 v3 I1 L1) (hP23 : ∀ (v1 : Int32) (v2 : Int32) (v3 : Int32) (v4 : Int32) (I1 : Ix) (L1 : Lx), FrI (wsI_X12_tour) (fsI_X12_tour) I0 I1 → FrL (wsL_X12_tour) (fsL_X12_tour) L0 L1 → P23 v1 v2 v3 v4 I1 L1 → P23' v1 v2 v3 v4 I1 L1) {v1 : Int32} {v2 : Int32} {v3 : Int32} {v4 : Int32} {t1 : Int32} {I : Ix} {L : Lx} (hF : FrI (wsI_X12_tour) (fsI_X12_tour) I0 I) (hL : FrL (wsL_X12_tour) (fsL_X12_tour) L0 L) (h : wpX12_tour_b84 Q P14 P23 v1 v2 v3 v4 t1 I L) : wpX12_tour_b84 Q' P14' P23' v1 v2 v3 v4 t1 I L := by
  unfold wpX12_tour_b84 at h ⊢
  exact mnX12_tour_b85 hQ hP14 hP23 hF hL h
set_option maxRecDepth 10000 in
theorem mnX12_tour_l23 {I0 : Ix} {L0 : Lx} {Q Q' : Int32 → Ix → Lx → Prop} {P14 P14' : Int32 → Int32 → Int32 → Ix → Lx → Prop} {P23 P23' : Int32 → Int32 → Int32 → Int32 → Ix → Lx → Prop} (hQ : ∀ (r : Int32) (I1 : Ix) (L1 : Lx), FrI (wsI_X12_tour) (fsI_X12_tour) I0 I1 → FrL (wsL_X12_tour) (fsL_X12_tour) L0 L1 → Q r I1 L1 → Q' r I1 L1) (hP14 : ∀ (v1 : Int32) (v2 : Int32) (v3 : Int32) (I1 : Ix) (L1 : Lx), FrI (wsI_X12_tour) (fsI_X12_tour) I0 I1 → FrL (wsL_X12_tour) (fsL_X12_tour) L0 L1 → P14 v1 v2 v3 I1 L1 → P14' v1 v2 v3 I1 L1) (hP23 : ∀ (v1 : Int32) (v2 : Int32) (v3 : Int32) (v4 : Int32) (I1 : Ix) (L1 : Lx), FrI (wsI_X12_tour) (fsI_X12_tour) I0 I1 → FrL (wsL_X12_tour) (fsL_X12_tour) L0 L1 → P23 v1 v2 v3 v4 I1 L1 → P23' v1 v2 v3 v4 I1 L1) {v1 : Int32} {v2 : Int32} {v3 : Int32} {v4 : Int32} {I : Ix} {L : Lx} (hF : FrI (wsI_X12_tour) (fsI_X12_tour) I0 I) (hL : FrL (wsL_X12_tour) (fsL_X12_tour) L0 L) (h : wpX12_tour_l23 Q P14 P23 v1 v2 v3 v4 I L) : wpX12_tour_l23 Q' P14' P23' v1 v2 v3 v4 I L := by
  unfold wpX12_tour_l23 at h ⊢
  refine ⟨fun hc => ?_, fun hc => ?_⟩
  · have h := h.1 hc
    exact hP14 _ _ _ _ _ hF hL h
  · have h := h.2 hc
    refine ⟨h.1, ?_⟩
    have h := h.2
    refine ⟨fun hc => ?_, fun hc => ?_⟩
    · have h := h.1 hc
      refine mnX12_hasThing (fun r3 I1 L2 hf hl h => ?_) h
      have hF := hF.tr hf (by decide) (by decide)
      have hL := hL.tr hl (by decide) (by decide)
      refine ⟨fun hc => ?_, fun hc => ?_⟩
      · have h := h.1 hc
        exact mnX12_tour_b84 hQ hP14 hP23 hF hL h
      · have h := h.2 hc
        refine ⟨h.1, ?_⟩
        have h := h.2
        refine mnX12_farOf (fun r6 I4 L5 hf hl h => ?_) h
        have hF := hF.tr hf (by decide) (by decide)
        have hL := hL.tr hl (by decide) (by decide)
        refine ⟨fun hc => ?_, fun hc => ?_⟩
        · have h := h.1 hc
          exact mnX12_tour_b84 hQ hP14 hP23 hF hL h
        · have h := h.2 hc
          exact mnX12_tour_b85 hQ hP14 hP23 hF hL h
    · have h := h.2 hc
      exact hP23 _ _ _ _ _ _ hF hL h
set_option maxRecDepth 10000 in
theorem mnX12_tour_h23 {I0 : Ix} {L0 : Lx} {Q Q' : Int32 → Ix → Lx → Prop} {P14 P14' : Int32 → Int32 → Int32 → Ix → Lx → Prop} (hQ : ∀ (r : Int32) (I1 : Ix) (L1 : Lx), FrI (wsI_X12_tour) (fsI_X12_tour) I0 I1 → FrL (wsL_X12_tour) (fsL_X12_tour) L0 L1 → Q r I1 L1 → Q' r I1 L1) (hP14 : ∀ (v1 : Int32) (v2 : Int32) (v3 : Int32) (I1 : Ix) (L1 : Lx), FrI (wsI_X12_tour) (fsI_X12_tour) I0 I1 → FrL (wsL_X12_tour) (fsL_X12_tour) L0 L1 → P14 v1 v2 v3 I1 L1 → P14' v1 v2 v3 I1 L1) {v1 : Int32} {v2 : Int32} {v3 : Int32} {v4 : Int32} {I : Ix} {L : Lx} (hF : FrI (wsI_X12_tour) (fsI_X12_tour) I0 I) (hL : FrL (wsL_X12_tour) (fsL_X12_tour) L0 L) (h : wpX12_tour_h23 Q P14 v1 v2 v3 v4 I L) : wpX12_tour_h23 Q' P14' v1 v2 v3 v4 I L := by
  unfold wpX12_tour_h23 at h
  refine Lfp.ind (P := fun z => FrI (wsI_X12_tour) (fsI_X12_tour) I0 z.2.2.2.2.1 → FrL (wsL_X12_tour) (fsL_X12_tour) L0 z.2.2.2.2.2 → wpX12_tour_h23 Q' P14' z.1 z.2.1 z.2.2.1 z.2.2.2.1 z.2.2.2.2.1 z.2.2.2.2.2) ?_ h hF hL
  intro z P' hP' h hF hL
  obtain ⟨v1, v2, v3, v4, I, L⟩ := z
  exact wpX12_tour_h23_fold (mnX12_tour_l23 hQ hP14 (fun v1 v2 v3 v4 I L hF hL h9 => hP' (v1, v2, v3, v4, I, L) h9 hF hL) hF hL h)
set_option maxRecDepth 10000 in
theorem mnX12_tour_l14 {I0 : Ix} {L0 : Lx} {Q Q' : Int32 → Ix → Lx → Prop} {P14 P14' : Int32 → Int32 → Int32 → Ix → Lx → Prop} (hQ : ∀ (r : Int32) (I1 : Ix) (L1 : Lx), FrI (wsI_X12_tour) (fsI_X12_tour) I0 I1 → FrL (wsL_X12_tour) (fsL_X12_tour) L0 L1 → Q r I1 L1 → Q' r I1 L1) (hP14 : ∀ (v1 : Int32) (v2 : Int32) (v3 : Int32) (I1 : Ix) (L1 : Lx), FrI (wsI_X12_tour) (fsI_X12_tour) I0 I1 → FrL (wsL_X12_tour) (fsL_X12_tour) L0 L1 → P14 v1 v2 v3 I1 L1 → P14' v1 v2 v3 I1 L1) {v1 : Int32} {v2 : Int32} {v3 : Int32} {I : Ix} {L : Lx} (hF : FrI (wsI_X12_tour) (fsI_X12_tour) I0 I) (hL : FrL (wsL_X12_tour) (fsL_X12_tour) L0 L) (h : wpX12_tour_l14 Q P14 v1 v2 v3 I L) : wpX12_tour_l14 Q' P14' v1 v2 v3 I L := by
  unfold wpX12_tour_l14 at h ⊢
  refine ⟨fun hc => ?_, fun hc => ?_⟩
  · have h := h.1 hc
    exact hQ _ _ _ hF hL h
  · have h := h.2 hc
    exact mnX12_tour_h23 hQ hP14 hF hL h
set_option maxRecDepth 10000 in
theorem mnX12_tour_h14 {I0 : Ix} {L0 : Lx} {Q Q' : Int32 → Ix → Lx → Prop} (hQ : ∀ (r : Int32) (I1 : Ix) (L1 : Lx), FrI (wsI_X12_tour) (fsI_X12_tour) I0 I1 → FrL (wsL_X12_tour) (fsL_X12_tour) L0 L1 → Q r I1 L1 → Q' r I1 L1) {v1 : Int32} {v2 : Int32} {v3 : Int32} {I : Ix} {L : Lx} (hF : FrI (wsI_X12_tour) (fsI_X12_tour) I0 I) (hL : FrL (wsL_X12_tour) (fsL_X12_tour) L0 L) (h : wpX12_tour_h14 Q v1 v2 v3 I L) : wpX12_tour_h14 Q' v1 v2 v3 I L := by
  unfold wpX12_tour_h14 at h
  refine Lfp.ind (P := fun z => FrI (wsI_X12_tour) (fsI_X12_tour) I0 z.2.2.2.1 → FrL (wsL_X12_tour) (fsL_X12_tour) L0 z.2.2.2.2 → wpX12_tour_h14 Q' z.1 z.2.1 z.2.2.1 z.2.2.2.1 z.2.2.2.2) ?_ h hF hL
  intro z P' hP' h hF hL
  obtain ⟨v1, v2, v3, I, L⟩ := z
  exact wpX12_tour_h14_fold (mnX12_tour_l14 hQ (fun v1 v2 v3 I L hF hL h9 => hP' (v1, v2, v3, I, L) h9 hF hL) hF hL h)
set_option maxRecDepth 10000 in
theorem mnX12_tour {a1 : Int32} {I : Ix} {L : Lx} {Q Q' : Int32 → Ix → Lx → Prop} (hQ : ∀ (r : Int32) (I1 : Ix) (L1 : Lx), FrI (wsI_X12_tour) (fsI_X12_tour) I I1 → FrL (wsL_X12_tour) (fsL_X12_tour) L L1 → Q r I1 L1 → Q' r I1 L1) (h : wpX12_tour a1 I L Q) : wpX12_tour a1 I L Q' := by
  have hF : FrI (wsI_X12_tour) (fsI_X12_tour) I I := FrI.rf
  have hL : FrL (wsL_X12_tour) (fsL_X12_tour) L L := FrL.rf
  unfold wpX12_tour at h ⊢
  refine mnX12_isPerson (fun r3 I1 L2 hf hl h => ?_) h
  have hF := hF.tr hf (by decide) (by decide)
  have hL := hL.tr hl (by decide) (by decide)
  refine ⟨fun hc => ?_, fun hc => ?_⟩
  · have h := h.1 hc
    exact mnX12_tour_h14 hQ hF hL h
  · have h := h.2 hc
    exact hQ _ _ _ hF hL h
abbrev wsI_X12_since : List Nat := []
abbrev wsL_X12_since : List Nat := []
abbrev fsI_X12_since : List (Nat × Nat) := []
abbrev fsL_X12_since : List (Nat × Nat) := []
set_option maxRecDepth 10000 in
theorem mnX12_since_l63 {I0 : Ix} {L0 : Lx} {Q Q' : Int32 → Ix → Lx → Prop} {P63 P63' : Int32 → Int32 → Ix → Lx → Prop} (hQ : ∀ (r : Int32) (I1 : Ix) (L1 : Lx), FrI (wsI_X12_since) (fsI_X12_since) I0 I1 → FrL (wsL_X12_since) (fsL_X12_since) L0 L1 → Q r I1 L1 → Q' r I1 L1) (hP63 : ∀ (v1 : Int32) (v2 : Int32) (I1 : Ix) (L1 : Lx), FrI (wsI_X12_since) (fsI_X12_since) I0 I1 → FrL (wsL_X12_since) (fsL_X12_since) L0 L1 → P63 v1 v2 I1 L1 → P63' v1 v2 I1 L1) {v1 : Int32} {v2 : Int32} {I : Ix} {L : Lx} (hF : FrI (wsI_X12_since) (fsI_X12_since) I0 I) (hL : FrL (wsL_X12_since) (fsL_X12_since) L0 L) (h : wpX12_since_l63 Q P63 v1 v2 I L) : wpX12_since_l63 Q' P63' v1 v2 I L := by
  unfold wpX12_since_l63 at h ⊢
  refine ⟨fun hc => ?_, fun hc => ?_⟩
  · have h := h.1 hc
    exact hQ _ _ _ hF hL h
  · have h := h.2 hc
    refine ⟨h.1, ?_⟩
    have h := h.2
    refine ⟨h.1, ?_⟩
    have h := h.2
    refine ⟨fun hc => ?_, fun hc => ?_⟩
    · have h := h.1 hc
      exact hQ _ _ _ hF hL h
    · have h := h.2 hc
      exact hP63 _ _ _ _ hF hL h
set_option maxRecDepth 10000 in
theorem mnX12_since_h63 {I0 : Ix} {L0 : Lx} {Q Q' : Int32 → Ix → Lx → Prop} (hQ : ∀ (r : Int32) (I1 : Ix) (L1 : Lx), FrI (wsI_X12_since) (fsI_X12_since) I0 I1 → FrL (wsL_X12_since) (fsL_X12_since) L0 L1 → Q r I1 L1 → Q' r I1 L1) {v1 : Int32} {v2 : Int32} {I : Ix} {L : Lx} (hF : FrI (wsI_X12_since) (fsI_X12_since) I0 I) (hL : FrL (wsL_X12_since) (fsL_X12_since) L0 L) (h : wpX12_since_h63 Q v1 v2 I L) : wpX12_since_h63 Q' v1 v2 I L := by
  unfold wpX12_since_h63 at h
  refine Lfp.ind (P := fun z => FrI (wsI_X12_since) (fsI_X12_since) I0 z.2.2.1 → FrL (wsL_X12_since) (fsL_X12_since) L0 z.2.2.2 → wpX12_since_h63 Q' z.1 z.2.1 z.2.2.1 z.2.2.2) ?_ h hF hL
  intro z P' hP' h hF hL
  obtain ⟨v1, v2, I, L⟩ := z
  exact wpX12_since_h63_fold (mnX12_since_l63 hQ (fun v1 v2 I L hF hL h9 => hP' (v1, v2, I, L) h9 hF hL) hF hL h)
set_option maxRecDepth 10000 in
theorem mnX12_since {a1 : Int32} {I : Ix} {L : Lx} {Q Q' : Int32 → Ix → Lx → Prop} (hQ : ∀ (r : Int32) (I1 : Ix) (L1 : Lx), FrI (wsI_X12_since) (fsI_X12_since) I I1 → FrL (wsL_X12_since) (fsL_X12_since) L L1 → Q r I1 L1 → Q' r I1 L1) (h : wpX12_since a1 I L Q) : wpX12_since a1 I L Q' := by
  have hF : FrI (wsI_X12_since) (fsI_X12_since) I I := FrI.rf
  have hL : FrL (wsL_X12_since) (fsL_X12_since) L L := FrL.rf
  unfold wpX12_since at h ⊢
  refine mnX12_isThing (fun r3 I1 L2 hf hl h => ?_) h
  have hF := hF.tr hf (by decide) (by decide)
  have hL := hL.tr hl (by decide) (by decide)
  refine ⟨fun hc => ?_, fun hc => ?_⟩
  · have h := h.1 hc
    exact hQ _ _ _ hF hL h
  · have h := h.2 hc
    refine ⟨h.1, ?_⟩
    have h := h.2
    refine ⟨fun hc => ?_, fun hc => ?_⟩
    · have h := h.1 hc
      exact hQ _ _ _ hF hL h
    · have h := h.2 hc
      refine ⟨fun hc => ?_, fun hc => ?_⟩
      · have h := h.1 hc
        exact hQ _ _ _ hF hL h
      · have h := h.2 hc
        refine ⟨fun hc => ?_, fun hc => ?_⟩
        · have h := h.1 hc
          exact hQ _ _ _ hF hL h
        · have h := h.2 hc
          refine ⟨h.1, ?_⟩
          have h := h.2
          refine ⟨h.1, ?_⟩
          have h := h.2
          refine ⟨fun hc => ?_, fun hc => ?_⟩
          · have h := h.1 hc
            exact mnX12_since_h63 hQ hF hL h
          · have h := h.2 hc
            exact hQ _ _ _ hF hL h
abbrev wsI_X12_tale : List Nat := [164, 165, 166, 167, 168]
abbrev wsL_X12_tale : List Nat := []
abbrev fsI_X12_tale : List (Nat × Nat) := [(120, 93)]
abbrev fsL_X12_tale : List (Nat × Nat) := []
set_option maxRecDepth 10000 in
theorem mnX12_tale_b32 {I0 : Ix} {L0 : Lx} {Q Q' : Int32 → Ix → Lx → Prop} (hQ : ∀ (r : Int32) (I1 : Ix) (L1 : Lx), FrI (wsI_X12_tale) (fsI_X12_tale) I0 I1 → FrL (wsL_X12_tale) (fsL_X12_tale) L0 L1 → Q r I1 L1 → Q' r I1 L1) {v1 : Int32} {v2 : Int32} {v3 : Int32} {I : Ix} {L : Lx} (hF : FrI (wsI_X12_tale) (fsI_X12_tale) I0 I) (hL : FrL (wsL_X12_tale) (fsL_X12_tale) L0 L) (h : wpX12_tale_b32 Q v1 v2 v3 I L) : wpX12_tale_b32 Q' v1 v2 v3 I L := by
  unfold wpX12_tale_b32 at h ⊢
  refine ⟨fun hc => ?_, fun hc => ?_⟩
  · have h := h.1 hc
    refine ⟨h.1, ?_⟩
    have h := h.2
    intro I1 eI1
    have h := h I1 eI1
    have hF := hF.pw eI1 (by decide)
    refine ⟨h.1, ?_⟩
    have h := h.2
    intro I2 eI2
    have h := h I2 eI2
    have hF := hF.pw eI2 (by decide)
    refine ⟨h.1, ?_⟩
    have h := h.2
    intro I3 eI3
    have h := h I3 eI3
    have hF := hF.pw eI3 (by decide)
    refine ⟨h.1, ?_⟩
    have h := h.2
    intro I4 eI4
    have h := h I4 eI4
    have hF := hF.pw eI4 (by decide)
    refine ⟨h.1, ?_⟩
    have h := h.2
    intro I5 eI5
    have h := h I5 eI5
    have hF := hF.pw eI5 (by decide)
    intro I6 eI6
    have h := h I6 eI6
    have hF := hF.pf eI6 (by decide)
    exact hQ _ _ _ hF hL h
  · have h := h.2 hc
    exact hQ _ _ _ hF hL h
set_option maxRecDepth 10000 in
theorem mnX12_tale {a1 : Int32} {a2 : Int32} {a3 : Int32} {I : Ix} {L : Lx} {Q Q' : Int32 → Ix → Lx → Prop} (hQ : ∀ (r : Int32) (I1 : Ix) (L1 : Lx), FrI (wsI_X12_tale) (fsI_X12_tale) I I1 → FrL (wsL_X12_tale) (fsL_X12_tale) L L1 → Q r I1 L1 → Q' r I1 L1) (h : wpX12_tale a1 a2 a3 I L Q) : wpX12_tale a1 a2 a3 I L Q' := by
  have hF : FrI (wsI_X12_tale) (fsI_X12_tale) I I := FrI.rf
  have hL : FrL (wsL_X12_tale) (fsL_X12_tale) L L := FrL.rf
  unfold wpX12_tale at h ⊢
  refine ⟨fun hc => ?_, fun hc => ?_⟩
  · have h := h.1 hc
    exact hQ _ _ _ hF hL h
  · have h := h.2 hc
    refine ⟨fun hc => ?_, fun hc => ?_⟩
    · have h := h.1 hc
      exact hQ _ _ _ hF hL h
    · have h := h.2 hc
      refine mnX12_isThing (fun r3 I1 L2 hf hl h => ?_) h
      have hF := hF.tr hf (by decide) (by decide)
      have hL := hL.tr hl (by decide) (by decide)
      refine ⟨fun hc => ?_, fun hc => ?_⟩
      · have h := h.1 hc
        exact hQ _ _ _ hF hL h
      · have h := h.2 hc
        refine ⟨fun hc => ?_, fun hc => ?_⟩
        · have h := h.1 hc
          exact mnX12_tale_b32 hQ hF hL h
        · have h := h.2 hc
          refine mnX12_isPerson (fun r6 I4 L5 hf hl h => ?_) h
          have hF := hF.tr hf (by decide) (by decide)
          have hL := hL.tr hl (by decide) (by decide)
          refine ⟨fun hc => ?_, fun hc => ?_⟩
          · have h := h.1 hc
            exact hQ _ _ _ hF hL h
          · have h := h.2 hc
            exact mnX12_tale_b32 hQ hF hL h
abbrev wsI_X12_untell : List Nat := [168]
abbrev wsL_X12_untell : List Nat := []
abbrev fsI_X12_untell : List (Nat × Nat) := []
abbrev fsL_X12_untell : List (Nat × Nat) := []
set_option maxRecDepth 10000 in
theorem mnX12_untell {a1 : Int32} {I : Ix} {L : Lx} {Q Q' : Bool → Ix → Lx → Prop} (hQ : ∀ (r : Bool) (I1 : Ix) (L1 : Lx), FrI (wsI_X12_untell) (fsI_X12_untell) I I1 → FrL (wsL_X12_untell) (fsL_X12_untell) L L1 → Q r I1 L1 → Q' r I1 L1) (h : wpX12_untell a1 I L Q) : wpX12_untell a1 I L Q' := by
  have hF : FrI (wsI_X12_untell) (fsI_X12_untell) I I := FrI.rf
  have hL : FrL (wsL_X12_untell) (fsL_X12_untell) L L := FrL.rf
  unfold wpX12_untell at h ⊢
  refine ⟨fun hc => ?_, fun hc => ?_⟩
  · have h := h.1 hc
    exact hQ _ _ _ hF hL h
  · have h := h.2 hc
    refine ⟨fun hc => ?_, fun hc => ?_⟩
    · have h := h.1 hc
      exact hQ _ _ _ hF hL h
    · have h := h.2 hc
      refine ⟨h.1, ?_⟩
      have h := h.2
      refine ⟨fun hc => ?_, fun hc => ?_⟩
      · have h := h.1 hc
        refine ⟨h.1, ?_⟩
        have h := h.2
        intro I1 eI1
        have h := h I1 eI1
        have hF := hF.pw eI1 (by decide)
        exact hQ _ _ _ hF hL h
      · have h := h.2 hc
        exact hQ _ _ _ hF hL h
abbrev wsI_X12_later : List Nat := []
abbrev wsL_X12_later : List Nat := []
abbrev fsI_X12_later : List (Nat × Nat) := [(120, 94)]
abbrev fsL_X12_later : List (Nat × Nat) := []
set_option maxRecDepth 10000 in
theorem mnX12_later {a1 : Int32} {I : Ix} {L : Lx} {Q Q' : Int32 → Ix → Lx → Prop} (hQ : ∀ (r : Int32) (I1 : Ix) (L1 : Lx), FrI (wsI_X12_later) (fsI_X12_later) I I1 → FrL (wsL_X12_later) (fsL_X12_later) L L1 → Q r I1 L1 → Q' r I1 L1) (h : wpX12_later a1 I L Q) : wpX12_later a1 I L Q' := by
  have hF : FrI (wsI_X12_later) (fsI_X12_later) I I := FrI.rf
  have hL : FrL (wsL_X12_later) (fsL_X12_later) L L := FrL.rf
  unfold wpX12_later at h ⊢
  refine ⟨fun hc => ?_, fun hc => ?_⟩
  · have h := h.1 hc
    exact hQ _ _ _ hF hL h
  · have h := h.2 hc
    refine ⟨fun hc => ?_, fun hc => ?_⟩
    · have h := h.1 hc
      exact hQ _ _ _ hF hL h
    · have h := h.2 hc
      refine ⟨fun hc => ?_, fun hc => ?_⟩
      · have h := h.1 hc
        intro I1 eI1
        have h := h I1 eI1
        have hF := hF.pf eI1 (by decide)
        exact hQ _ _ _ hF hL h
      · have h := h.2 hc
        exact hQ _ _ _ hF hL h
abbrev wsI_X12_counts : List Nat := []
abbrev wsL_X12_counts : List Nat := []
abbrev fsI_X12_counts : List (Nat × Nat) := []
abbrev fsL_X12_counts : List (Nat × Nat) := []
set_option maxRecDepth 10000 in
theorem mnX12_counts_b29 {I0 : Ix} {L0 : Lx} {Q Q' : Bool → Ix → Lx → Prop} (hQ : ∀ (r : Bool) (I1 : Ix) (L1 : Lx), FrI (wsI_X12_counts) (fsI_X12_counts) I0 I1 → FrL (wsL_X12_counts) (fsL_X12_counts) L0 L1 → Q r I1 L1 → Q' r I1 L1) {I : Ix} {L : Lx} (hF : FrI (wsI_X12_counts) (fsI_X12_counts) I0 I) (hL : FrL (wsL_X12_counts) (fsL_X12_counts) L0 L) (h : wpX12_counts_b29 Q I L) : wpX12_counts_b29 Q' I L := by
  unfold wpX12_counts_b29 at h ⊢
  exact hQ _ _ _ hF hL h
set_option maxRecDepth 10000 in
theorem mnX12_counts {a1 : Int32} {a2 : Int32} {I : Ix} {L : Lx} {Q Q' : Bool → Ix → Lx → Prop} (hQ : ∀ (r : Bool) (I1 : Ix) (L1 : Lx), FrI (wsI_X12_counts) (fsI_X12_counts) I I1 → FrL (wsL_X12_counts) (fsL_X12_counts) L L1 → Q r I1 L1 → Q' r I1 L1) (h : wpX12_counts a1 a2 I L Q) : wpX12_counts a1 a2 I L Q' := by
  have hF : FrI (wsI_X12_counts) (fsI_X12_counts) I I := FrI.rf
  have hL : FrL (wsL_X12_counts) (fsL_X12_counts) L L := FrL.rf
  unfold wpX12_counts at h ⊢
  refine ⟨h.1, ?_⟩
  have h := h.2
  refine ⟨fun hc => ?_, fun hc => ?_⟩
  · have h := h.1 hc
    exact hQ _ _ _ hF hL h
  · have h := h.2 hc
    refine ⟨h.1, ?_⟩
    have h := h.2
    refine ⟨fun hc => ?_, fun hc => ?_⟩
    · have h := h.1 hc
      exact mnX12_counts_b29 hQ hF hL h
    · have h := h.2 hc
      refine ⟨h.1, ?_⟩
      have h := h.2
      refine ⟨fun hc => ?_, fun hc => ?_⟩
      · have h := h.1 hc
        exact hQ _ _ _ hF hL h
      · have h := h.2 hc
        exact mnX12_counts_b29 hQ hF hL h
abbrev wsI_X12_isFalse : List Nat := []
abbrev wsL_X12_isFalse : List Nat := []
abbrev fsI_X12_isFalse : List (Nat × Nat) := []
abbrev fsL_X12_isFalse : List (Nat × Nat) := []
set_option maxRecDepth 10000 in
theorem mnX12_isFalse {a1 : Int32} {I : Ix} {L : Lx} {Q Q' : Bool → Ix → Lx → Prop} (hQ : ∀ (r : Bool) (I1 : Ix) (L1 : Lx), FrI (wsI_X12_isFalse) (fsI_X12_isFalse) I I1 → FrL (wsL_X12_isFalse) (fsL_X12_isFalse) L L1 → Q r I1 L1 → Q' r I1 L1) (h : wpX12_isFalse a1 I L Q) : wpX12_isFalse a1 I L Q' := by
  have hF : FrI (wsI_X12_isFalse) (fsI_X12_isFalse) I I := FrI.rf
  have hL : FrL (wsL_X12_isFalse) (fsL_X12_isFalse) L L := FrL.rf
  unfold wpX12_isFalse at h ⊢
  refine ⟨h.1, ?_⟩
  have h := h.2
  refine ⟨fun hc => ?_, fun hc => ?_⟩
  · have h := h.1 hc
    exact hQ _ _ _ hF hL h
  · have h := h.2 hc
    refine ⟨h.1, ?_⟩
    have h := h.2
    refine ⟨h.1, ?_⟩
    have h := h.2
    refine ⟨h.1, ?_⟩
    have h := h.2
    refine ⟨h.1, ?_⟩
    have h := h.2
    refine ⟨fun hc => ?_, fun hc => ?_⟩
    · have h := h.1 hc
      exact hQ _ _ _ hF hL h
    · have h := h.2 hc
      exact hQ _ _ _ hF hL h
abbrev wsI_X12_isDouble : List Nat := []
abbrev wsL_X12_isDouble : List Nat := []
abbrev fsI_X12_isDouble : List (Nat × Nat) := []
abbrev fsL_X12_isDouble : List (Nat × Nat) := []
set_option maxRecDepth 10000 in
theorem mnX12_isDouble_b73 {I0 : Ix} {L0 : Lx} {Q Q' : Bool → Ix → Lx → Prop} {P5 P5' : Int32 → Int32 → Int32 → Int32 → Ix → Lx → Prop} (hQ : ∀ (r : Bool) (I1 : Ix) (L1 : Lx), FrI (wsI_X12_isDouble) (fsI_X12_isDouble) I0 I1 → FrL (wsL_X12_isDouble) (fsL_X12_isDouble) L0 L1 → Q r I1 L1 → Q' r I1 L1) (hP5 : ∀ (v1 : Int32) (v2 : Int32) (v3 : Int32) (v4 : Int32) (I1 : Ix) (L1 : Lx), FrI (wsI_X12_isDouble) (fsI_X12_isDouble) I0 I1 → FrL (wsL_X12_isDouble) (fsL_X12_isDouble) L0 L1 → P5 v1 v2 v3 v4 I1 L1 → P5' v1 v2 v3 v4 I1 L1) {v1 : Int32} {v2 : Int32} {v4 : Int32} {I : Ix} {L : Lx} (hF : FrI (wsI_X12_isDouble) (fsI_X12_isDouble) I0 I) (hL : FrL (wsL_X12_isDouble) (fsL_X12_isDouble) L0 L) (h : wpX12_isDouble_b73 Q P5 v1 v2 v4 I L) : wpX12_isDouble_b73 Q' P5' v1 v2 v4 I L := by
  unfold wpX12_isDouble_b73 at h ⊢
  exact hP5 _ _ _ _ _ _ hF hL h
set_option maxRecDepth 10000 in
theorem mnX12_isDouble_l5 {I0 : Ix} {L0 : Lx} {Q Q' : Bool → Ix → Lx → Prop} {P5 P5' : Int32 → Int32 → Int32 → Int32 → Ix → Lx → Prop} (hQ : ∀ (r : Bool) (I1 : Ix) (L1 : Lx), FrI (wsI_X12_isDouble) (fsI_X12_isDouble) I0 I1 → FrL (wsL_X12_isDouble) (fsL_X12_isDouble) L0 L1 → Q r I1 L1 → Q' r I1 L1) (hP5 : ∀ (v1 : Int32) (v2 : Int32) (v3 : Int32) (v4 : Int32) (I1 : Ix) (L1 : Lx), FrI (wsI_X12_isDouble) (fsI_X12_isDouble) I0 I1 → FrL (wsL_X12_isDouble) (fsL_X12_isDouble) L0 L1 → P5 v1 v2 v3 v4 I1 L1 → P5' v1 v2 v3 v4 I1 L1) {v1 : Int32} {v2 : Int32} {v3 : Int32} {v4 : Int32} {I : Ix} {L : Lx} (hF : FrI (wsI_X12_isDouble) (fsI_X12_isDouble) I0 I) (hL : FrL (wsL_X12_isDouble) (fsL_X12_isDouble) L0 L) (h : wpX12_isDouble_l5 Q P5 v1 v2 v3 v4 I L) : wpX12_isDouble_l5 Q' P5' v1 v2 v3 v4 I L := by
  unfold wpX12_isDouble_l5 at h ⊢
  refine ⟨fun hc => ?_, fun hc => ?_⟩
  · have h := h.1 hc
    obtain ⟨b, e, h⟩ := h
    exact ⟨b, e, hQ _ _ _ hF hL h⟩
  · have h := h.2 hc
    refine ⟨fun hc => ?_, fun hc => ?_⟩
    · have h := h.1 hc
      exact mnX12_isDouble_b73 hQ hP5 hF hL h
    · have h := h.2 hc
      refine mnX12_counts (fun r3 I1 L2 hf hl h => ?_) h
      have hF := hF.tr hf (by decide) (by decide)
      have hL := hL.tr hl (by decide) (by decide)
      refine ⟨fun hc => ?_, fun hc => ?_⟩
      · have h := h.1 hc
        exact hP5 _ _ _ _ _ _ hF hL h
      · have h := h.2 hc
        refine ⟨h.1, ?_⟩
        have h := h.2
        refine ⟨h.1, ?_⟩
        have h := h.2
        refine ⟨fun hc => ?_, fun hc => ?_⟩
        · have h := h.1 hc
          exact hP5 _ _ _ _ _ _ hF hL h
        · have h := h.2 hc
          refine ⟨h.1, ?_⟩
          have h := h.2
          refine ⟨h.1, ?_⟩
          have h := h.2
          refine ⟨fun hc => ?_, fun hc => ?_⟩
          · have h := h.1 hc
            exact hP5 _ _ _ _ _ _ hF hL h
          · have h := h.2 hc
            refine ⟨h.1, ?_⟩
            have h := h.2
            refine ⟨h.1, ?_⟩
            have h := h.2
            refine ⟨fun hc => ?_, fun hc => ?_⟩
            · have h := h.1 hc
              exact hP5 _ _ _ _ _ _ hF hL h
            · have h := h.2 hc
              exact mnX12_isDouble_b73 hQ hP5 hF hL h
set_option maxRecDepth 10000 in
theorem mnX12_isDouble_h5 {I0 : Ix} {L0 : Lx} {Q Q' : Bool → Ix → Lx → Prop} (hQ : ∀ (r : Bool) (I1 : Ix) (L1 : Lx), FrI (wsI_X12_isDouble) (fsI_X12_isDouble) I0 I1 → FrL (wsL_X12_isDouble) (fsL_X12_isDouble) L0 L1 → Q r I1 L1 → Q' r I1 L1) {v1 : Int32} {v2 : Int32} {v3 : Int32} {v4 : Int32} {I : Ix} {L : Lx} (hF : FrI (wsI_X12_isDouble) (fsI_X12_isDouble) I0 I) (hL : FrL (wsL_X12_isDouble) (fsL_X12_isDouble) L0 L) (h : wpX12_isDouble_h5 Q v1 v2 v3 v4 I L) : wpX12_isDouble_h5 Q' v1 v2 v3 v4 I L := by
  unfold wpX12_isDouble_h5 at h
  refine Lfp.ind (P := fun z => FrI (wsI_X12_isDouble) (fsI_X12_isDouble) I0 z.2.2.2.2.1 → FrL (wsL_X12_isDouble) (fsL_X12_isDouble) L0 z.2.2.2.2.2 → wpX12_isDouble_h5 Q' z.1 z.2.1 z.2.2.1 z.2.2.2.1 z.2.2.2.2.1 z.2.2.2.2.2) ?_ h hF hL
  intro z P' hP' h hF hL
  obtain ⟨v1, v2, v3, v4, I, L⟩ := z
  exact wpX12_isDouble_h5_fold (mnX12_isDouble_l5 hQ (fun v1 v2 v3 v4 I L hF hL h9 => hP' (v1, v2, v3, v4, I, L) h9 hF hL) hF hL h)
set_option maxRecDepth 10000 in
theorem mnX12_isDouble {a1 : Int32} {a2 : Int32} {I : Ix} {L : Lx} {Q Q' : Bool → Ix → Lx → Prop} (hQ : ∀ (r : Bool) (I1 : Ix) (L1 : Lx), FrI (wsI_X12_isDouble) (fsI_X12_isDouble) I I1 → FrL (wsL_X12_isDouble) (fsL_X12_isDouble) L L1 → Q r I1 L1 → Q' r I1 L1) (h : wpX12_isDouble a1 a2 I L Q) : wpX12_isDouble a1 a2 I L Q' := by
  have hF : FrI (wsI_X12_isDouble) (fsI_X12_isDouble) I I := FrI.rf
  have hL : FrL (wsL_X12_isDouble) (fsL_X12_isDouble) L L := FrL.rf
  unfold wpX12_isDouble at h ⊢
  exact mnX12_isDouble_h5 hQ hF hL h
abbrev wsI_X12_judge : List Nat := []
abbrev wsL_X12_judge : List Nat := []
abbrev fsI_X12_judge : List (Nat × Nat) := []
abbrev fsL_X12_judge : List (Nat × Nat) := []
set_option maxRecDepth 10000 in
theorem mnX12_judge_b92 {I0 : Ix} {L0 : Lx} {Q Q' : Int32 → Ix → Lx → Prop} {P19 P19' : Int32 → Int32 → Int32 → Int32 → Int32 → Ix → Lx → Prop} (hQ : ∀ (r : Int32) (I1 : Ix) (L1 : Lx), FrI (wsI_X12_judge) (fsI_X12_judge) I0 I1 → FrL (wsL_X12_judge) (fsL_X12_judge) L0 L1 → Q r I1 L1 → Q' r I1 L1) (hP19 : ∀ (v1 : Int32) (v2 : Int32) (v3 : Int32) (v4 : Int32) (v5 : Int32) (I1 : Ix) (L1 : Lx), FrI (wsI_X12_judge) (fsI_X12_judge) I0 I1 → FrL (wsL_X12_judge) (fsL_X12_judge) L0 L1 → P19 v1 v2 v3 v4 v5 I1 L1 → P19' v1 v2 v3 v4 v5 I1 L1) {v1 : Int32} {v2 : Int32} {v3 : Int32} {v4 : Int32} {v5 : Int32} {t0 : Int32} {I : Ix} {L : Lx} (hF : FrI (wsI_X12_judge) (fsI_X12_judge) I0 I) (hL : FrL (wsL_X12_judge) (fsL_X12_judge) L0 L) (h : wpX12_judge_b92 Q P19 v1 v2 v3 v4 v5 t0 I L) : wpX12_judge_b92 Q' P19' v1 v2 v3 v4 v5 t0 I L := by
  unfold wpX12_judge_b92 at h ⊢
  refine ⟨fun hc => ?_, fun hc => ?_⟩
  · have h := h.1 hc
    refine ⟨fun hc => ?_, fun hc => ?_⟩
    · have h := h.1 hc
      exact hP19 _ _ _ _ _ _ _ hF hL h
    · have h := h.2 hc
      exact hP19 _ _ _ _ _ _ _ hF hL h
  · have h := h.2 hc
    exact hP19 _ _ _ _ _ _ _ hF hL h
set_option maxRecDepth 10000 in
theorem mnX12_judge_b91 {I0 : Ix} {L0 : Lx} {Q Q' : Int32 → Ix → Lx → Prop} {P19 P19' : Int32 → Int32 → Int32 → Int32 → Int32 → Ix → Lx → Prop} (hQ : ∀ (r : Int32) (I1 : Ix) (L1 : Lx), FrI (wsI_X12_judge) (fsI_X12_judge) I0 I1 → FrL (wsL_X12_judge) (fsL_X12_judge) L0 L1 → Q r I1 L1 → Q' r I1 L1) (hP19 : ∀ (v1 : Int32) (v2 : Int32) (v3 : Int32) (v4 : Int32) (v5 : Int32) (I1 : Ix) (L1 : Lx), FrI (wsI_X12_judge) (fsI_X12_judge) I0 I1 → FrL (wsL_X12_judge) (fsL_X12_judge) L0 L1 → P19 v1 v2 v3 v4 v5 I1 L1 → P19' v1 v2 v3 v4 v5 I1 L1) {v1 : Int32} {v2 : Int32} {v3 : Int32} {v4 : Int32} {v5 : Int32} {I : Ix} {L : Lx} (hF : FrI (wsI_X12_judge) (fsI_X12_judge) I0 I) (hL : FrL (wsL_X12_judge) (fsL_X12_judge) L0 L) (h : wpX12_judge_b91 Q P19 v1 v2 v3 v4 v5 I L) : wpX12_judge_b91 Q' P19' v1 v2 v3 v4 v5 I L := by
  unfold wpX12_judge_b91 at h ⊢
  exact mnX12_judge_b92 hQ hP19 hF hL h
set_option maxRecDepth 10000 in
theorem mnX12_judge_b87 {I0 : Ix} {L0 : Lx} {Q Q' : Int32 → Ix → Lx → Prop} {P19 P19' : Int32 → Int32 → Int32 → Int32 → Int32 → Ix → Lx → Prop} (hQ : ∀ (r : Int32) (I1 : Ix) (L1 : Lx), FrI (wsI_X12_judge) (fsI_X12_judge) I0 I1 → FrL (wsL_X12_judge) (fsL_X12_judge) L0 L1 → Q r I1 L1 → Q' r I1 L1) (hP19 : ∀ (v1 : Int32) (v2 : Int32) (v3 : Int32) (v4 : Int32) (v5 : Int32) (I1 : Ix) (L1 : Lx), FrI (wsI_X12_judge) (fsI_X12_judge) I0 I1 → FrL (wsL_X12_judge) (fsL_X12_judge) L0 L1 → P19 v1 v2 v3 v4 v5 I1 L1 → P19' v1 v2 v3 v4 v5 I1 L1) {v1 : Int32} {v2 : Int32} {v3 : Int32} {v4 : Int32} {v5 : Int32} {I : Ix} {L : Lx} (hF : FrI (wsI_X12_judge) (fsI_X12_judge) I0 I) (hL : FrL (wsL_X12_judge) (fsL_X12_judge) L0 L) (h : wpX12_judge_b87 Q P19 v1 v2 v3 v4 v5 I L) : wpX12_judge_b87 Q' P19' v1 v2 v3 v4 v5 I L := by
  unfold wpX12_judge_b87 at h ⊢
  exact mnX12_judge_b92 hQ hP19 hF hL h
set_option maxRecDepth 10000 in
theorem mnX12_judge_l19 {I0 : Ix} {L0 : Lx} {Q Q' : Int32 → Ix → Lx → Prop} {P19 P19' : Int32 → Int32 → Int32 → Int32 → Int32 → Ix → Lx → Prop} (hQ : ∀ (r : Int32) (I1 : Ix) (L1 : Lx), FrI (wsI_X12_judge) (fsI_X12_judge) I0 I1 → FrL (wsL_X12_judge) (fsL_X12_judge) L0 L1 → Q r I1 L1 → Q' r I1 L1) (hP19 : ∀ (v1 : Int32) (v2 : Int32) (v3 : Int32) (v4 : Int32) (v5 : Int32) (I1 : Ix) (L1 : Lx), FrI (wsI_X12_judge) (fsI_X12_judge) I0 I1 → FrL (wsL_X12_judge) (fsL_X12_judge) L0 L1 → P19 v1 v2 v3 v4 v5 I1 L1 → P19' v1 v2 v3 v4 v5 I1 L1) {v1 : Int32} {v2 : Int32} {v3 : Int32} {v4 : Int32} {v5 : Int32} {I : Ix} {L : Lx} (hF : FrI (wsI_X12_judge) (fsI_X12_judge) I0 I) (hL : FrL (wsL_X12_judge) (fsL_X12_judge) L0 L) (h : wpX12_judge_l19 Q P19 v1 v2 v3 v4 v5 I L) : wpX12_judge_l19 Q' P19' v1 v2 v3 v4 v5 I L := by
  unfold wpX12_judge_l19 at h ⊢
  refine ⟨fun hc => ?_, fun hc => ?_⟩
  · have h := h.1 hc
    refine ⟨fun hc => ?_, fun hc => ?_⟩
    · have h := h.1 hc
      exact hQ _ _ _ hF hL h
    · have h := h.2 hc
      exact hQ _ _ _ hF hL h
  · have h := h.2 hc
    refine mnX12_counts (fun r3 I1 L2 hf hl h => ?_) h
    have hF := hF.tr hf (by decide) (by decide)
    have hL := hL.tr hl (by decide) (by decide)
    refine ⟨fun hc => ?_, fun hc => ?_⟩
    · have h := h.1 hc
      exact mnX12_judge_b91 hQ hP19 hF hL h
    · have h := h.2 hc
      refine ⟨fun hc => ?_, fun hc => ?_⟩
      · have h := h.1 hc
        refine ⟨fun hc => ?_, fun hc => ?_⟩
        · have h := h.1 hc
          refine mnX12_isFalse (fun r6 I4 L5 hf hl h => ?_) h
          have hF := hF.tr hf (by decide) (by decide)
          have hL := hL.tr hl (by decide) (by decide)
          refine ⟨fun hc => ?_, fun hc => ?_⟩
          · have h := h.1 hc
            exact mnX12_judge_b91 hQ hP19 hF hL h
          · have h := h.2 hc
            exact mnX12_judge_b87 hQ hP19 hF hL h
        · have h := h.2 hc
          refine mnX12_isDouble (fun r9 I7 L8 hf hl h => ?_) h
          have hF := hF.tr hf (by decide) (by decide)
          have hL := hL.tr hl (by decide) (by decide)
          refine ⟨fun hc => ?_, fun hc => ?_⟩
          · have h := h.1 hc
            exact mnX12_judge_b91 hQ hP19 hF hL h
          · have h := h.2 hc
            exact mnX12_judge_b87 hQ hP19 hF hL h
      · have h := h.2 hc
        refine ⟨h.1, ?_⟩
        have h := h.2
        refine ⟨fun hc => ?_, fun hc => ?_⟩
        · have h := h.1 hc
          exact mnX12_judge_b91 hQ hP19 hF hL h
        · have h := h.2 hc
          exact mnX12_judge_b87 hQ hP19 hF hL h
set_option maxRecDepth 10000 in
theorem mnX12_judge_h19 {I0 : Ix} {L0 : Lx} {Q Q' : Int32 → Ix → Lx → Prop} (hQ : ∀ (r : Int32) (I1 : Ix) (L1 : Lx), FrI (wsI_X12_judge) (fsI_X12_judge) I0 I1 → FrL (wsL_X12_judge) (fsL_X12_judge) L0 L1 → Q r I1 L1 → Q' r I1 L1) {v1 : Int32} {v2 : Int32} {v3 : Int32} {v4 : Int32} {v5 : Int32} {I : Ix} {L : Lx} (hF : FrI (wsI_X12_judge) (fsI_X12_judge) I0 I) (hL : FrL (wsL_X12_judge) (fsL_X12_judge) L0 L) (h : wpX12_judge_h19 Q v1 v2 v3 v4 v5 I L) : wpX12_judge_h19 Q' v1 v2 v3 v4 v5 I L := by
  unfold wpX12_judge_h19 at h
  refine Lfp.ind (P := fun z => FrI (wsI_X12_judge) (fsI_X12_judge) I0 z.2.2.2.2.2.1 → FrL (wsL_X12_judge) (fsL_X12_judge) L0 z.2.2.2.2.2.2 → wpX12_judge_h19 Q' z.1 z.2.1 z.2.2.1 z.2.2.2.1 z.2.2.2.2.1 z.2.2.2.2.2.1 z.2.2.2.2.2.2) ?_ h hF hL
  intro z P' hP' h hF hL
  obtain ⟨v1, v2, v3, v4, v5, I, L⟩ := z
  exact wpX12_judge_h19_fold (mnX12_judge_l19 hQ (fun v1 v2 v3 v4 v5 I L hF hL h9 => hP' (v1, v2, v3, v4, v5, I, L) h9 hF hL) hF hL h)
set_option maxRecDepth 10000 in
theorem mnX12_judge {a1 : Int32} {a2 : Int32} {I : Ix} {L : Lx} {Q Q' : Int32 → Ix → Lx → Prop} (hQ : ∀ (r : Int32) (I1 : Ix) (L1 : Lx), FrI (wsI_X12_judge) (fsI_X12_judge) I I1 → FrL (wsL_X12_judge) (fsL_X12_judge) L L1 → Q r I1 L1 → Q' r I1 L1) (h : wpX12_judge a1 a2 I L Q) : wpX12_judge a1 a2 I L Q' := by
  have hF : FrI (wsI_X12_judge) (fsI_X12_judge) I I := FrI.rf
  have hL : FrL (wsL_X12_judge) (fsL_X12_judge) L L := FrL.rf
  unfold wpX12_judge at h ⊢
  refine ⟨fun hc => ?_, fun hc => ?_⟩
  · have h := h.1 hc
    exact hQ _ _ _ hF hL h
  · have h := h.2 hc
    refine ⟨fun hc => ?_, fun hc => ?_⟩
    · have h := h.1 hc
      exact mnX12_judge_h19 hQ hF hL h
    · have h := h.2 hc
      exact hQ _ _ _ hF hL h
abbrev wsI_X12_seed : List Nat := []
abbrev wsL_X12_seed : List Nat := []
abbrev fsI_X12_seed : List (Nat × Nat) := [(120, 58)]
abbrev fsL_X12_seed : List (Nat × Nat) := []
set_option maxRecDepth 10000 in
theorem mnX12_seed {a1 : Int32} {I : Ix} {L : Lx} {Q Q' : Int32 → Ix → Lx → Prop} (hQ : ∀ (r : Int32) (I1 : Ix) (L1 : Lx), FrI (wsI_X12_seed) (fsI_X12_seed) I I1 → FrL (wsL_X12_seed) (fsL_X12_seed) L L1 → Q r I1 L1 → Q' r I1 L1) (h : wpX12_seed a1 I L Q) : wpX12_seed a1 I L Q' := by
  have hF : FrI (wsI_X12_seed) (fsI_X12_seed) I I := FrI.rf
  have hL : FrL (wsL_X12_seed) (fsL_X12_seed) L L := FrL.rf
  unfold wpX12_seed at h ⊢
  intro I1 eI1
  have h := h I1 eI1
  have hF := hF.pf eI1 (by decide)
  exact hQ _ _ _ hF hL h
abbrev wsI_X12_isBox : List Nat := []
abbrev wsL_X12_isBox : List Nat := []
abbrev fsI_X12_isBox : List (Nat × Nat) := []
abbrev fsL_X12_isBox : List (Nat × Nat) := []
set_option maxRecDepth 10000 in
theorem mnX12_isBox {a0 : Int32} {I : Ix} {L : Lx} {Q Q' : Bool → Ix → Lx → Prop} (hQ : ∀ (r : Bool) (I1 : Ix) (L1 : Lx), FrI (wsI_X12_isBox) (fsI_X12_isBox) I I1 → FrL (wsL_X12_isBox) (fsL_X12_isBox) L L1 → Q r I1 L1 → Q' r I1 L1) (h : wpX12_isBox a0 I L Q) : wpX12_isBox a0 I L Q' := by
  have hF : FrI (wsI_X12_isBox) (fsI_X12_isBox) I I := FrI.rf
  have hL : FrL (wsL_X12_isBox) (fsL_X12_isBox) L L := FrL.rf
  unfold wpX12_isBox at h ⊢
  refine ⟨fun hc => ?_, fun hc => ?_⟩
  · have h := h.1 hc
    exact hQ _ _ _ hF hL h
  · have h := h.2 hc
    refine ⟨fun hc => ?_, fun hc => ?_⟩
    · have h := h.1 hc
      exact hQ _ _ _ hF hL h
    · have h := h.2 hc
      exact hQ _ _ _ hF hL h
abbrev wsI_X12_image : List Nat := [175, 176, 177, 174, 172, 173, 171, 170, 169]
abbrev wsL_X12_image : List Nat := []
abbrev fsI_X12_image : List (Nat × Nat) := []
abbrev fsL_X12_image : List (Nat × Nat) := []
set_option maxRecDepth 10000 in
theorem mnX12_image_l160 {I0 : Ix} {L0 : Lx} {Q Q' : Int32 → Ix → Lx → Prop} {P160 P160' : Int32 → Int32 → Ix → Lx → Prop} (hQ : ∀ (r : Int32) (I1 : Ix) (L1 : Lx), FrI (wsI_X12_image) (fsI_X12_image) I0 I1 → FrL (wsL_X12_image) (fsL_X12_image) L0 L1 → Q r I1 L1 → Q' r I1 L1) (hP160 : ∀ (v1 : Int32) (v2 : Int32) (I1 : Ix) (L1 : Lx), FrI (wsI_X12_image) (fsI_X12_image) I0 I1 → FrL (wsL_X12_image) (fsL_X12_image) L0 L1 → P160 v1 v2 I1 L1 → P160' v1 v2 I1 L1) {v1 : Int32} {v2 : Int32} {I : Ix} {L : Lx} (hF : FrI (wsI_X12_image) (fsI_X12_image) I0 I) (hL : FrL (wsL_X12_image) (fsL_X12_image) L0 L) (h : wpX12_image_l160 Q P160 v1 v2 I L) : wpX12_image_l160 Q' P160' v1 v2 I L := by
  unfold wpX12_image_l160 at h ⊢
  refine ⟨fun hc => ?_, fun hc => ?_⟩
  · have h := h.1 hc
    refine ⟨h.1, ?_⟩
    have h := h.2
    intro I1 eI1
    have h := h I1 eI1
    have hF := hF.pw eI1 (by decide)
    refine ⟨h.1, ?_⟩
    have h := h.2
    intro I2 eI2
    have h := h I2 eI2
    have hF := hF.pw eI2 (by decide)
    refine ⟨h.1, ?_⟩
    have h := h.2
    intro I3 eI3
    have h := h I3 eI3
    have hF := hF.pw eI3 (by decide)
    exact hQ _ _ _ hF hL h
  · have h := h.2 hc
    refine ⟨h.1, ?_⟩
    have h := h.2
    refine ⟨h.1, ?_⟩
    have h := h.2
    intro I4 eI4
    have h := h I4 eI4
    have hF := hF.pw eI4 (by decide)
    exact hP160 _ _ _ _ hF hL h
set_option maxRecDepth 10000 in
theorem mnX12_image_h160 {I0 : Ix} {L0 : Lx} {Q Q' : Int32 → Ix → Lx → Prop} (hQ : ∀ (r : Int32) (I1 : Ix) (L1 : Lx), FrI (wsI_X12_image) (fsI_X12_image) I0 I1 → FrL (wsL_X12_image) (fsL_X12_image) L0 L1 → Q r I1 L1 → Q' r I1 L1) {v1 : Int32} {v2 : Int32} {I : Ix} {L : Lx} (hF : FrI (wsI_X12_image) (fsI_X12_image) I0 I) (hL : FrL (wsL_X12_image) (fsL_X12_image) L0 L) (h : wpX12_image_h160 Q v1 v2 I L) : wpX12_image_h160 Q' v1 v2 I L := by
  unfold wpX12_image_h160 at h
  refine Lfp.ind (P := fun z => FrI (wsI_X12_image) (fsI_X12_image) I0 z.2.2.1 → FrL (wsL_X12_image) (fsL_X12_image) L0 z.2.2.2 → wpX12_image_h160 Q' z.1 z.2.1 z.2.2.1 z.2.2.2) ?_ h hF hL
  intro z P' hP' h hF hL
  obtain ⟨v1, v2, I, L⟩ := z
  exact wpX12_image_h160_fold (mnX12_image_l160 hQ (fun v1 v2 I L hF hL h9 => hP' (v1, v2, I, L) h9 hF hL) hF hL h)
set_option maxRecDepth 10000 in
theorem mnX12_image_l112 {I0 : Ix} {L0 : Lx} {Q Q' : Int32 → Ix → Lx → Prop} {P112 P112' : Int32 → Int32 → Ix → Lx → Prop} (hQ : ∀ (r : Int32) (I1 : Ix) (L1 : Lx), FrI (wsI_X12_image) (fsI_X12_image) I0 I1 → FrL (wsL_X12_image) (fsL_X12_image) L0 L1 → Q r I1 L1 → Q' r I1 L1) (hP112 : ∀ (v1 : Int32) (v2 : Int32) (I1 : Ix) (L1 : Lx), FrI (wsI_X12_image) (fsI_X12_image) I0 I1 → FrL (wsL_X12_image) (fsL_X12_image) L0 L1 → P112 v1 v2 I1 L1 → P112' v1 v2 I1 L1) {v1 : Int32} {v2 : Int32} {I : Ix} {L : Lx} (hF : FrI (wsI_X12_image) (fsI_X12_image) I0 I) (hL : FrL (wsL_X12_image) (fsL_X12_image) L0 L) (h : wpX12_image_l112 Q P112 v1 v2 I L) : wpX12_image_l112 Q' P112' v1 v2 I L := by
  unfold wpX12_image_l112 at h ⊢
  refine ⟨fun hc => ?_, fun hc => ?_⟩
  · have h := h.1 hc
    exact mnX12_image_h160 hQ hF hL h
  · have h := h.2 hc
    refine ⟨h.1, ?_⟩
    have h := h.2
    refine ⟨h.1, ?_⟩
    have h := h.2
    intro I1 eI1
    have h := h I1 eI1
    have hF := hF.pw eI1 (by decide)
    refine ⟨h.1, ?_⟩
    have h := h.2
    refine ⟨h.1, ?_⟩
    have h := h.2
    intro I2 eI2
    have h := h I2 eI2
    have hF := hF.pw eI2 (by decide)
    exact hP112 _ _ _ _ hF hL h
set_option maxRecDepth 10000 in
theorem mnX12_image_h112 {I0 : Ix} {L0 : Lx} {Q Q' : Int32 → Ix → Lx → Prop} (hQ : ∀ (r : Int32) (I1 : Ix) (L1 : Lx), FrI (wsI_X12_image) (fsI_X12_image) I0 I1 → FrL (wsL_X12_image) (fsL_X12_image) L0 L1 → Q r I1 L1 → Q' r I1 L1) {v1 : Int32} {v2 : Int32} {I : Ix} {L : Lx} (hF : FrI (wsI_X12_image) (fsI_X12_image) I0 I) (hL : FrL (wsL_X12_image) (fsL_X12_image) L0 L) (h : wpX12_image_h112 Q v1 v2 I L) : wpX12_image_h112 Q' v1 v2 I L := by
  unfold wpX12_image_h112 at h
  refine Lfp.ind (P := fun z => FrI (wsI_X12_image) (fsI_X12_image) I0 z.2.2.1 → FrL (wsL_X12_image) (fsL_X12_image) L0 z.2.2.2 → wpX12_image_h112 Q' z.1 z.2.1 z.2.2.1 z.2.2.2) ?_ h hF hL
  intro z P' hP' h hF hL
  obtain ⟨v1, v2, I, L⟩ := z
  exact wpX12_image_h112_fold (mnX12_image_l112 hQ (fun v1 v2 I L hF hL h9 => hP' (v1, v2, I, L) h9 hF hL) hF hL h)
set_option maxRecDepth 10000 in
theorem mnX12_image_l18 {I0 : Ix} {L0 : Lx} {Q Q' : Int32 → Ix → Lx → Prop} {P18 P18' : Int32 → Int32 → Ix → Lx → Prop} (hQ : ∀ (r : Int32) (I1 : Ix) (L1 : Lx), FrI (wsI_X12_image) (fsI_X12_image) I0 I1 → FrL (wsL_X12_image) (fsL_X12_image) L0 L1 → Q r I1 L1 → Q' r I1 L1) (hP18 : ∀ (v1 : Int32) (v2 : Int32) (I1 : Ix) (L1 : Lx), FrI (wsI_X12_image) (fsI_X12_image) I0 I1 → FrL (wsL_X12_image) (fsL_X12_image) L0 L1 → P18 v1 v2 I1 L1 → P18' v1 v2 I1 L1) {v1 : Int32} {v2 : Int32} {I : Ix} {L : Lx} (hF : FrI (wsI_X12_image) (fsI_X12_image) I0 I) (hL : FrL (wsL_X12_image) (fsL_X12_image) L0 L) (h : wpX12_image_l18 Q P18 v1 v2 I L) : wpX12_image_l18 Q' P18' v1 v2 I L := by
  unfold wpX12_image_l18 at h ⊢
  refine ⟨fun hc => ?_, fun hc => ?_⟩
  · have h := h.1 hc
    exact mnX12_image_h112 hQ hF hL h
  · have h := h.2 hc
    refine ⟨h.1, ?_⟩
    have h := h.2
    refine ⟨h.1, ?_⟩
    have h := h.2
    intro I1 eI1
    have h := h I1 eI1
    have hF := hF.pw eI1 (by decide)
    refine ⟨h.1, ?_⟩
    have h := h.2
    refine ⟨h.1, ?_⟩
    have h := h.2
    intro I2 eI2
    have h := h I2 eI2
    have hF := hF.pw eI2 (by decide)
    refine ⟨h.1, ?_⟩
    have h := h.2
    refine ⟨h.1, ?_⟩
    have h := h.2
    intro I3 eI3
    have h := h I3 eI3
    have hF := hF.pw eI3 (by decide)
    refine ⟨h.1, ?_⟩
    have h := h.2
    refine ⟨h.1, ?_⟩
    have h := h.2
    intro I4 eI4
    have h := h I4 eI4
    have hF := hF.pw eI4 (by decide)
    refine ⟨h.1, ?_⟩
    have h := h.2
    refine ⟨h.1, ?_⟩
    have h := h.2
    intro I5 eI5
    have h := h I5 eI5
    have hF := hF.pw eI5 (by decide)
    exact hP18 _ _ _ _ hF hL h
set_option maxRecDepth 10000 in
theorem mnX12_image_h18 {I0 : Ix} {L0 : Lx} {Q Q' : Int32 → Ix → Lx → Prop} (hQ : ∀ (r : Int32) (I1 : Ix) (L1 : Lx), FrI (wsI_X12_image) (fsI_X12_image) I0 I1 → FrL (wsL_X12_image) (fsL_X12_image) L0 L1 → Q r I1 L1 → Q' r I1 L1) {v1 : Int32} {v2 : Int32} {I : Ix} {L : Lx} (hF : FrI (wsI_X12_image) (fsI_X12_image) I0 I) (hL : FrL (wsL_X12_image) (fsL_X12_image) L0 L) (h : wpX12_image_h18 Q v1 v2 I L) : wpX12_image_h18 Q' v1 v2 I L := by
  unfold wpX12_image_h18 at h
  refine Lfp.ind (P := fun z => FrI (wsI_X12_image) (fsI_X12_image) I0 z.2.2.1 → FrL (wsL_X12_image) (fsL_X12_image) L0 z.2.2.2 → wpX12_image_h18 Q' z.1 z.2.1 z.2.2.1 z.2.2.2) ?_ h hF hL
  intro z P' hP' h hF hL
  obtain ⟨v1, v2, I, L⟩ := z
  exact wpX12_image_h18_fold (mnX12_image_l18 hQ (fun v1 v2 I L hF hL h9 => hP' (v1, v2, I, L) h9 hF hL) hF hL h)
set_option maxRecDepth 10000 in
theorem mnX12_image {a1 : Int32} {I : Ix} {L : Lx} {Q Q' : Int32 → Ix → Lx → Prop} (hQ : ∀ (r : Int32) (I1 : Ix) (L1 : Lx), FrI (wsI_X12_image) (fsI_X12_image) I I1 → FrL (wsL_X12_image) (fsL_X12_image) L L1 → Q r I1 L1 → Q' r I1 L1) (h : wpX12_image a1 I L Q) : wpX12_image a1 I L Q' := by
  have hF : FrI (wsI_X12_image) (fsI_X12_image) I I := FrI.rf
  have hL : FrL (wsL_X12_image) (fsL_X12_image) L L := FrL.rf
  unfold wpX12_image at h ⊢
  refine mnX12_isBox (fun r3 I1 L2 hf hl h => ?_) h
  have hF := hF.tr hf (by decide) (by decide)
  have hL := hL.tr hl (by decide) (by decide)
  refine ⟨fun hc => ?_, fun hc => ?_⟩
  · have h := h.1 hc
    refine ⟨h.1, ?_⟩
    have h := h.2
    intro I4 eI4
    have h := h I4 eI4
    have hF := hF.pw eI4 (by decide)
    exact mnX12_image_h18 hQ hF hL h
  · have h := h.2 hc
    exact hQ _ _ _ hF hL h
abbrev wsI_X12_back : List Nat := [150, 147, 148, 143, 144, 145, 146, 149]
abbrev wsL_X12_back : List Nat := []
abbrev fsI_X12_back : List (Nat × Nat) := [(120, 57), (120, 58), (120, 59)]
abbrev fsL_X12_back : List (Nat × Nat) := []
set_option maxRecDepth 10000 in
theorem mnX12_back_l162 {I0 : Ix} {L0 : Lx} {Q Q' : Int32 → Ix → Lx → Prop} {P162 P162' : Int32 → Int32 → Ix → Lx → Prop} (hQ : ∀ (r : Int32) (I1 : Ix) (L1 : Lx), FrI (wsI_X12_back) (fsI_X12_back) I0 I1 → FrL (wsL_X12_back) (fsL_X12_back) L0 L1 → Q r I1 L1 → Q' r I1 L1) (hP162 : ∀ (v1 : Int32) (v2 : Int32) (I1 : Ix) (L1 : Lx), FrI (wsI_X12_back) (fsI_X12_back) I0 I1 → FrL (wsL_X12_back) (fsL_X12_back) L0 L1 → P162 v1 v2 I1 L1 → P162' v1 v2 I1 L1) {v1 : Int32} {v2 : Int32} {I : Ix} {L : Lx} (hF : FrI (wsI_X12_back) (fsI_X12_back) I0 I) (hL : FrL (wsL_X12_back) (fsL_X12_back) L0 L) (h : wpX12_back_l162 Q P162 v1 v2 I L) : wpX12_back_l162 Q' P162' v1 v2 I L := by
  unfold wpX12_back_l162 at h ⊢
  refine ⟨fun hc => ?_, fun hc => ?_⟩
  · have h := h.1 hc
    refine ⟨h.1, ?_⟩
    have h := h.2
    intro I1 eI1
    have h := h I1 eI1
    have hF := hF.pf eI1 (by decide)
    refine ⟨h.1, ?_⟩
    have h := h.2
    intro I2 eI2
    have h := h I2 eI2
    have hF := hF.pf eI2 (by decide)
    refine ⟨h.1, ?_⟩
    have h := h.2
    intro I3 eI3
    have h := h I3 eI3
    have hF := hF.pf eI3 (by decide)
    exact hQ _ _ _ hF hL h
  · have h := h.2 hc
    refine ⟨h.1, ?_⟩
    have h := h.2
    refine ⟨h.1, ?_⟩
    have h := h.2
    intro I4 eI4
    have h := h I4 eI4
    have hF := hF.pw eI4 (by decide)
    exact hP162 _ _ _ _ hF hL h
set_option maxRecDepth 10000 in
theorem mnX12_back_h162 {I0 : Ix} {L0 : Lx} {Q Q' : Int32 → Ix → Lx → Prop} (hQ : ∀ (r : Int32) (I1 : Ix) (L1 : Lx), FrI (wsI_X12_back) (fsI_X12_back) I0 I1 → FrL (wsL_X12_back) (fsL_X12_back) L0 L1 → Q r I1 L1 → Q' r I1 L1) {v1 : Int32} {v2 : Int32} {I : Ix} {L : Lx} (hF : FrI (wsI_X12_back) (fsI_X12_back) I0 I) (hL : FrL (wsL_X12_back) (fsL_X12_back) L0 L) (h : wpX12_back_h162 Q v1 v2 I L) : wpX12_back_h162 Q' v1 v2 I L := by
  unfold wpX12_back_h162 at h
  refine Lfp.ind (P := fun z => FrI (wsI_X12_back) (fsI_X12_back) I0 z.2.2.1 → FrL (wsL_X12_back) (fsL_X12_back) L0 z.2.2.2 → wpX12_back_h162 Q' z.1 z.2.1 z.2.2.1 z.2.2.2) ?_ h hF hL
  intro z P' hP' h hF hL
  obtain ⟨v1, v2, I, L⟩ := z
  exact wpX12_back_h162_fold (mnX12_back_l162 hQ (fun v1 v2 I L hF hL h9 => hP' (v1, v2, I, L) h9 hF hL) hF hL h)
set_option maxRecDepth 10000 in
theorem mnX12_back_l114 {I0 : Ix} {L0 : Lx} {Q Q' : Int32 → Ix → Lx → Prop} {P114 P114' : Int32 → Int32 → Ix → Lx → Prop} (hQ : ∀ (r : Int32) (I1 : Ix) (L1 : Lx), FrI (wsI_X12_back) (fsI_X12_back) I0 I1 → FrL (wsL_X12_back) (fsL_X12_back) L0 L1 → Q r I1 L1 → Q' r I1 L1) (hP114 : ∀ (v1 : Int32) (v2 : Int32) (I1 : Ix) (L1 : Lx), FrI (wsI_X12_back) (fsI_X12_back) I0 I1 → FrL (wsL_X12_back) (fsL_X12_back) L0 L1 → P114 v1 v2 I1 L1 → P114' v1 v2 I1 L1) {v1 : Int32} {v2 : Int32} {I : Ix} {L : Lx} (hF : FrI (wsI_X12_back) (fsI_X12_back) I0 I) (hL : FrL (wsL_X12_back) (fsL_X12_back) L0 L) (h : wpX12_back_l114 Q P114 v1 v2 I L) : wpX12_back_l114 Q' P114' v1 v2 I L := by
  unfold wpX12_back_l114 at h ⊢
  refine ⟨fun hc => ?_, fun hc => ?_⟩
  · have h := h.1 hc
    exact mnX12_back_h162 hQ hF hL h
  · have h := h.2 hc
    refine ⟨h.1, ?_⟩
    have h := h.2
    refine ⟨h.1, ?_⟩
    have h := h.2
    intro I1 eI1
    have h := h I1 eI1
    have hF := hF.pw eI1 (by decide)
    refine ⟨h.1, ?_⟩
    have h := h.2
    refine ⟨h.1, ?_⟩
    have h := h.2
    intro I2 eI2
    have h := h I2 eI2
    have hF := hF.pw eI2 (by decide)
    exact hP114 _ _ _ _ hF hL h
set_option maxRecDepth 10000 in
theorem mnX12_back_h114 {I0 : Ix} {L0 : Lx} {Q Q' : Int32 → Ix → Lx → Prop} (hQ : ∀ (r : Int32) (I1 : Ix) (L1 : Lx), FrI (wsI_X12_back) (fsI_X12_back) I0 I1 → FrL (wsL_X12_back) (fsL_X12_back) L0 L1 → Q r I1 L1 → Q' r I1 L1) {v1 : Int32} {v2 : Int32} {I : Ix} {L : Lx} (hF : FrI (wsI_X12_back) (fsI_X12_back) I0 I) (hL : FrL (wsL_X12_back) (fsL_X12_back) L0 L) (h : wpX12_back_h114 Q v1 v2 I L) : wpX12_back_h114 Q' v1 v2 I L := by
  unfold wpX12_back_h114 at h
  refine Lfp.ind (P := fun z => FrI (wsI_X12_back) (fsI_X12_back) I0 z.2.2.1 → FrL (wsL_X12_back) (fsL_X12_back) L0 z.2.2.2 → wpX12_back_h114 Q' z.1 z.2.1 z.2.2.1 z.2.2.2) ?_ h hF hL
  intro z P' hP' h hF hL
  obtain ⟨v1, v2, I, L⟩ := z
  exact wpX12_back_h114_fold (mnX12_back_l114 hQ (fun v1 v2 I L hF hL h9 => hP' (v1, v2, I, L) h9 hF hL) hF hL h)
set_option maxRecDepth 10000 in
theorem mnX12_back_l20 {I0 : Ix} {L0 : Lx} {Q Q' : Int32 → Ix → Lx → Prop} {P20 P20' : Int32 → Int32 → Ix → Lx → Prop} (hQ : ∀ (r : Int32) (I1 : Ix) (L1 : Lx), FrI (wsI_X12_back) (fsI_X12_back) I0 I1 → FrL (wsL_X12_back) (fsL_X12_back) L0 L1 → Q r I1 L1 → Q' r I1 L1) (hP20 : ∀ (v1 : Int32) (v2 : Int32) (I1 : Ix) (L1 : Lx), FrI (wsI_X12_back) (fsI_X12_back) I0 I1 → FrL (wsL_X12_back) (fsL_X12_back) L0 L1 → P20 v1 v2 I1 L1 → P20' v1 v2 I1 L1) {v1 : Int32} {v2 : Int32} {I : Ix} {L : Lx} (hF : FrI (wsI_X12_back) (fsI_X12_back) I0 I) (hL : FrL (wsL_X12_back) (fsL_X12_back) L0 L) (h : wpX12_back_l20 Q P20 v1 v2 I L) : wpX12_back_l20 Q' P20' v1 v2 I L := by
  unfold wpX12_back_l20 at h ⊢
  refine ⟨fun hc => ?_, fun hc => ?_⟩
  · have h := h.1 hc
    exact mnX12_back_h114 hQ hF hL h
  · have h := h.2 hc
    refine ⟨h.1, ?_⟩
    have h := h.2
    refine ⟨h.1, ?_⟩
    have h := h.2
    intro I1 eI1
    have h := h I1 eI1
    have hF := hF.pw eI1 (by decide)
    refine ⟨h.1, ?_⟩
    have h := h.2
    refine ⟨h.1, ?_⟩
    have h := h.2
    intro I2 eI2
    have h := h I2 eI2
    have hF := hF.pw eI2 (by decide)
    refine ⟨h.1, ?_⟩
    have h := h.2
    refine ⟨h.1, ?_⟩
    have h := h.2
    intro I3 eI3
    have h := h I3 eI3
    have hF := hF.pw eI3 (by decide)
    refine ⟨h.1, ?_⟩
    have h := h.2
    refine ⟨h.1, ?_⟩
    have h := h.2
    intro I4 eI4
    have h := h I4 eI4
    have hF := hF.pw eI4 (by decide)
    refine ⟨h.1, ?_⟩
    have h := h.2
    refine ⟨h.1, ?_⟩
    have h := h.2
    intro I5 eI5
    have h := h I5 eI5
    have hF := hF.pw eI5 (by decide)
    exact hP20 _ _ _ _ hF hL h
set_option maxRecDepth 10000 in
theorem mnX12_back_h20 {I0 : Ix} {L0 : Lx} {Q Q' : Int32 → Ix → Lx → Prop} (hQ : ∀ (r : Int32) (I1 : Ix) (L1 : Lx), FrI (wsI_X12_back) (fsI_X12_back) I0 I1 → FrL (wsL_X12_back) (fsL_X12_back) L0 L1 → Q r I1 L1 → Q' r I1 L1) {v1 : Int32} {v2 : Int32} {I : Ix} {L : Lx} (hF : FrI (wsI_X12_back) (fsI_X12_back) I0 I) (hL : FrL (wsL_X12_back) (fsL_X12_back) L0 L) (h : wpX12_back_h20 Q v1 v2 I L) : wpX12_back_h20 Q' v1 v2 I L := by
  unfold wpX12_back_h20 at h
  refine Lfp.ind (P := fun z => FrI (wsI_X12_back) (fsI_X12_back) I0 z.2.2.1 → FrL (wsL_X12_back) (fsL_X12_back) L0 z.2.2.2 → wpX12_back_h20 Q' z.1 z.2.1 z.2.2.1 z.2.2.2) ?_ h hF hL
  intro z P' hP' h hF hL
  obtain ⟨v1, v2, I, L⟩ := z
  exact wpX12_back_h20_fold (mnX12_back_l20 hQ (fun v1 v2 I L hF hL h9 => hP' (v1, v2, I, L) h9 hF hL) hF hL h)
set_option maxRecDepth 10000 in
theorem mnX12_back {a1 : Int32} {I : Ix} {L : Lx} {Q Q' : Int32 → Ix → Lx → Prop} (hQ : ∀ (r : Int32) (I1 : Ix) (L1 : Lx), FrI (wsI_X12_back) (fsI_X12_back) I I1 → FrL (wsL_X12_back) (fsL_X12_back) L L1 → Q r I1 L1 → Q' r I1 L1) (h : wpX12_back a1 I L Q) : wpX12_back a1 I L Q' := by
  have hF : FrI (wsI_X12_back) (fsI_X12_back) I I := FrI.rf
  have hL : FrL (wsL_X12_back) (fsL_X12_back) L L := FrL.rf
  unfold wpX12_back at h ⊢
  refine mnX12_isBox (fun r3 I1 L2 hf hl h => ?_) h
  have hF := hF.tr hf (by decide) (by decide)
  have hL := hL.tr hl (by decide) (by decide)
  refine ⟨fun hc => ?_, fun hc => ?_⟩
  · have h := h.1 hc
    exact hQ _ _ _ hF hL h
  · have h := h.2 hc
    refine ⟨h.1, ?_⟩
    have h := h.2
    refine ⟨fun hc => ?_, fun hc => ?_⟩
    · have h := h.1 hc
      exact mnX12_back_h20 hQ hF hL h
    · have h := h.2 hc
      exact hQ _ _ _ hF hL h
abbrev wsI_X12_about : List Nat := []
abbrev wsL_X12_about : List Nat := []
abbrev fsI_X12_about : List (Nat × Nat) := []
abbrev fsL_X12_about : List (Nat × Nat) := []
set_option maxRecDepth 10000 in
theorem mnX12_about {a1 : Int32} {I : Ix} {L : Lx} {Q Q' : Int32 → Ix → Lx → Prop} (hQ : ∀ (r : Int32) (I1 : Ix) (L1 : Lx), FrI (wsI_X12_about) (fsI_X12_about) I I1 → FrL (wsL_X12_about) (fsL_X12_about) L L1 → Q r I1 L1 → Q' r I1 L1) (h : wpX12_about a1 I L Q) : wpX12_about a1 I L Q' := by
  have hF : FrI (wsI_X12_about) (fsI_X12_about) I I := FrI.rf
  have hL : FrL (wsL_X12_about) (fsL_X12_about) L L := FrL.rf
  unfold wpX12_about at h ⊢
  refine ⟨fun hc => ?_, fun hc => ?_, fun hc => ?_, fun hc => ?_, fun hc => ?_, fun hc => ?_, fun hc => ?_, fun hc => ?_, fun hc => ?_, fun hc => ?_, fun hc => ?_, ?_⟩
  · have h := h.1 hc
    exact hQ _ _ _ hF hL h
  · have h := h.2.1 hc
    exact hQ _ _ _ hF hL h
  · have h := h.2.2.1 hc
    exact hQ _ _ _ hF hL h
  · have h := h.2.2.2.1 hc
    exact hQ _ _ _ hF hL h
  · have h := h.2.2.2.2.1 hc
    exact hQ _ _ _ hF hL h
  · have h := h.2.2.2.2.2.1 hc
    exact hQ _ _ _ hF hL h
  · have h := h.2.2.2.2.2.2.1 hc
    exact hQ _ _ _ hF hL h
  · have h := h.2.2.2.2.2.2.2.1 hc
    exact hQ _ _ _ hF hL h
  · have h := h.2.2.2.2.2.2.2.2.1 hc
    exact hQ _ _ _ hF hL h
  · have h := h.2.2.2.2.2.2.2.2.2.1 hc
    exact hQ _ _ _ hF hL h
  · have h := h.2.2.2.2.2.2.2.2.2.2.1 hc
    exact hQ _ _ _ hF hL h
  · intro e0 e1 e2 e3 e4 e5 e6 e7 e8 e9 e10
    have h := h.2.2.2.2.2.2.2.2.2.2.2 e0 e1 e2 e3 e4 e5 e6 e7 e8 e9 e10
    exact hQ _ _ _ hF hL h
